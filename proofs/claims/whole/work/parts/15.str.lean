/-! String.indexOf on the class' own text: the JDK's own methods walked -/
theorem nst_of {w : Cond} (h : nstW w = true) : (∃ a i b n d g, w = .fieldLinkNest a i b n d g) ∨ ∃ a i x g, w = .methodLinkNest a i x g := by
  cases w <;> first | (cases h; done) | exact Or.inl ⟨_, _, _, _, _, _, rfl⟩ | exact Or.inr ⟨_, _, _, _, rfl⟩
theorem Cx.moved {D : va_G} {cT : Nat → ClassId} {u U : State} (hW : u.WarmedH U.vm) (h : Cx D cT u) : Cx D cT U := by
  refine ⟨fun w hw hg a => ?_, va_K.moved hW.alike h.2.1, fun t ht => ?_⟩
  · have h1 := h.1 w hw hg #[]
    unfold gw at hg
    rw [Bool.or_eq_true] at hg
    rcases hg with hg | hg
    · exact word_at hW (good_of_word hg) h1
    · rcases nst_of hg with ⟨a', i, b, n, d, g, rfl⟩ | ⟨a', i, x, g, rfl⟩
      · exact va_Nw.use rfl (va_Nw.warmF hW h1)
      · exact va_Nw.use rfl (va_Nw.warmM hW h1)
  · have h1 := h.2.2 t ht
    rw [← Cond.arrayOver_setVmC hW.alike] at h1
    exact h1
theorem Sy.moved {A : Nat × Nat × Nat} {aV : Nat} {u U : State} {H : Heap} (hW : u.WarmedH U.vm) (h : Sy A aV u H) : Sy A aV U H := by
  obtain ⟨a3, a4, a5, a6, a7, a8⟩ := h
  exact ⟨a3, va_O.moved hW.alike a4, va_OF.moved hW.alike a5, va_OF.moved hW.alike a6, va_T.moved hW.alike a7, va_Z.moved hW.alike a8⟩
theorem Sx.moved {A : Nat × Nat × Nat} {u U : State} {H : Heap} (hW : u.WarmedH U.vm) (h : Sx A u H) : Sx A U H := by
  obtain ⟨a1, a2, aV, a3⟩ := h
  exact ⟨a1, vk_R.warm hW a2, aV, a3.moved hW⟩
theorem GoodIn_code {y : MethodName} {bytes : ByteArray} {k : Nat} {rt : Option FieldType} {big : List Cond} (h : Cond.code y bytes k rt ∈ big) : GoodIn big [Cond.code y bytes k rt] := fun w hw => by
  rw [List.mem_singleton.mp hw]
  exact ⟨h, Or.inl rfl⟩
/-- the method answers v and changes nothing -/
def PQ (v : Int32) : Array Value → State → Outcome → State → Prop := fun _ st o t => o = .returned (some (.int v)) ∧ t.heap = st.heap
def Pj (D : va_G) (cT : Nat → ClassId) (A : Nat × Nat × Nat) (aV : Nat) (av : List Value) : Array Value → State → Prop := fun v U => v = av.toArray ∧ Cx D cT U ∧ Sy A aV U U.heap
theorem Pj_blind (D : va_G) (cT : Nat → ClassId) (A : Nat × Nat × Nat) (aV : Nat) (av : List Value) : FrameBlind (Pj D cT A aV av) := fun a U g mk h =>
  ⟨h.1, h.2.1.moved (u := U) (U := U.calling g mk a) (State.WarmedH.refl U), h.2.2.moved (u := U) (U := U.calling g mk a) (State.WarmedH.refl U)⟩
def RMj (k : Nat) : Room := { frames := k, cells := 0, slots := 0, locals := 41 * k }
theorem RMj_f (k : Nat) : (RMj k).frames = k := rfl
theorem RMj_l (k : Nat) : (RMj k).locals = 41 * k := rfl
def Mj (k : Nat) (y : MethodName) (bytes : ByteArray) (maxL : Nat) (ret : Option FieldType) (l : Launch) (D : va_G) (cT : Nat → ClassId) (A : Nat × Nat × Nat) (aV : Nat) (av : List Value) (v : Int32) : Prop :=
  Met l y [Cond.code y bytes maxL ret] (RMj k) (Pj D cT A aV av) (PQ v) 0 0 (fun _ => False)
section
variable {p : Program} {l : Launch} {e : Env} {R : Room} {s : State} {m : MethodId} {args : Array Value} {below : List Frame} {meth : Method} {c : Code} {H : Heap} {locs : List Loc} {cells slots : Nat} {Q : State → Prop}
variable {cc bytes : ByteArray} {pc index maxL k n : Nat} {ls : Array Slot} {rest av : List Value} {D : va_G} {cT : Nat → ClassId} {A : Nat × Nat × Nat} {aV : Nat} {own : String} {y : MethodName} {ret : Option FieldType} {v : Int32}
theorem W.pureRun {a : Array Value} {st : List Value} (hrun : va_Run p l e R s m args below meth c H locs cells slots 0 0 (F0 m pc ls st) rest (PQ v a) (fun _ => False))
    (kk : W p l e R s m args below meth c H locs cells slots Q (F0 m (pc + 3) ls (.int v :: rest))) : W p l e R s m args below meth c H locs cells slots Q (F0 m pc ls st) := by
  intro T hT X
  obtain ⟨v', st₀, t, T', L, e0, X', hL, e1, e2, ⟨hv, hHt⟩, hst⟩ := hrun T hT X
  cases hv
  have hL0 : L = [] := by
    cases L with
    | nil => rfl
    | cons q r => exact (hL q List.mem_cons_self).elim
  subst hL0
  rw [List.append_nil] at X'
  obtain ⟨t2, a1, b1⟩ := kk T' (e1.trans (hHt.trans e0)) X'
  exact ⟨t2, hst t2 a1, b1⟩
theorem jV (hx : p.tables.exec = Jvm.exec) (hb : c.code = cc) (hml : c.maxLocals = ls.size) (hown : s.vm.findClass own = some m.cls) (hC : Cx D cT s) (hS : Sy A aV s H) (hM : Mj k y bytes maxL ret l D cT A aV (.ref A.2.2 :: av) v)
    (hcode : Cond.code y bytes maxL ret ∈ lw_tbl) (hlk : Cond.methodLink own index y ∈ lw_tbl) (him : Cond.instanceMethod y ∈ lw_tbl) (hse : Cond.selects "java/lang/String" y y ∈ lw_tbl) (hini : Cond.initialized y.cls ∈ lw_tbl)
    (hds : y.cls ≠ "java/lang/invoke/MethodHandle" ∧ y.cls ≠ "java/lang/invoke/VarHandle" ∧ (parseMethodDescriptor y.desc).map (fun d => d.parameters.length) = some n) (hn : av.length = n)
    (hfr : k + 1 ≤ R.frames) (hlo : 8 + (maxL + 11) + 41 * k ≤ R.locals) (hcat : (rest.map fun v => v.category).sum ≤ 8) (hce : cells ≤ R.cells) (hsl : slots ≤ R.slots) (hd : decode cc pc = .ok (.invokevirtual index, 3)) {st : List Value} (hst : st = av.reverse ++ .ref A.2.2 :: rest)
    (kk : W p l e R s m args below meth c H locs cells slots Q (F0 m (pc + 3) ls (.int v :: rest))) : W p l e R s m args below meth c H locs cells slots Q (F0 m pc ls st) := by
  subst hst
  have hts : ∀ w ∈ [Cond.code y bytes maxL ret], w.before args s = true := fun w hw => by rw [List.mem_singleton.mp hw]; exact hC.1 _ hcode rfl args
  refine W.pureRun (a := (Value.ref A.2.2 :: av).toArray) (rest := rest) (v := v) ?_ kk
  refine va_runV (Ts := [Cond.code y bytes maxL ret]) (C := "java/lang/String") (rm := RMj k) (As := av) ⟨hx, hb, hml, hown, hts⟩ hM ⟨callB_of n hts (GoodIn_code List.mem_cons_self) rfl rfl rfl (hC.1 _ hini rfl args) (hC.1 _ hlk rfl args) hds ⟨hfr, hlo⟩, hC.1 _ him rfl args, hC.1 _ hse rfl args⟩ ⟨Pj_blind _ _ _ _ _, ?_, fun U hU hW => ⟨rfl, hC.moved hW, by rw [hU]; exact hS.moved hW⟩⟩ rfl hn rfl rfl (lv_room hcat) hd ⟨hce, hsl⟩
  obtain ⟨-, ⟨cell, h1, h2, h3, -⟩, -⟩ := hS
  exact ⟨cell, h1, h2, h3⟩
theorem jS (hx : p.tables.exec = Jvm.exec) (hb : c.code = cc) (hml : c.maxLocals = ls.size) (hown : s.vm.findClass own = some m.cls) (hC : Cx D cT s) (hS : Sy A aV s H) (hM : Mj k y bytes maxL ret l D cT A aV av v)
    (hcode : Cond.code y bytes maxL ret ∈ lw_tbl) (hlk : Cond.methodLink own index y ∈ lw_tbl) (hsta : Cond.static y ∈ lw_tbl) (hini : Cond.initialized y.cls ∈ lw_tbl)
    (hds : y.cls ≠ "java/lang/invoke/MethodHandle" ∧ y.cls ≠ "java/lang/invoke/VarHandle" ∧ (parseMethodDescriptor y.desc).map (fun d => d.parameters.length) = some n) (hn : av.length = n)
    (hfr : k + 1 ≤ R.frames) (hlo : 8 + (maxL + 11) + 41 * k ≤ R.locals) (hcat : (rest.map fun v => v.category).sum ≤ 8) (hce : cells ≤ R.cells) (hsl : slots ≤ R.slots) (hd : decode cc pc = .ok (.invokestatic index, 3)) {st : List Value} (hst : st = av.reverse ++ rest)
    (kk : W p l e R s m args below meth c H locs cells slots Q (F0 m (pc + 3) ls (.int v :: rest))) : W p l e R s m args below meth c H locs cells slots Q (F0 m pc ls st) := by
  subst hst
  have hts : ∀ w ∈ [Cond.code y bytes maxL ret], w.before args s = true := fun w hw => by rw [List.mem_singleton.mp hw]; exact hC.1 _ hcode rfl args
  refine W.pureRun (a := av.toArray) (rest := rest) (v := v) ?_ kk
  exact va_runS (Ts := [Cond.code y bytes maxL ret]) (rm := RMj k) (As := av) ⟨hx, hb, hml, hown, hts⟩ hM ⟨callB_of n hts (GoodIn_code List.mem_cons_self) rfl rfl rfl (hC.1 _ hini rfl args) (hC.1 _ hlk rfl args) hds ⟨hfr, hlo⟩, hC.1 _ hsta rfl args⟩ ⟨Pj_blind _ _ _ _ _, fun U hU hW => ⟨rfl, hC.moved hW, by rw [hU]; exact hS.moved hW⟩⟩ rfl hn rfl rfl (lv_room hcat) hd ⟨hce, hsl⟩
end

def yq_can : MethodName := ⟨"java/lang/StringLatin1", "canEncode", "(I)Z"⟩
theorem wq_can : Cond.code yq_can prog_19_method_4_code 1 (some .boolean) ∈ lw_tbl := List.mem_of_getElem? (i := 707) (by decide +kernel)
theorem dq_can_0 : decode prog_19_method_4_code 0 = .ok (.iload_n 0, 1) := by decide +kernel
theorem dq_can_1 : decode prog_19_method_4_code 1 = .ok (.ifCond .lt 14, 3) := by decide +kernel
theorem dq_can_4 : decode prog_19_method_4_code 4 = .ok (.iload_n 0, 1) := by decide +kernel
theorem dq_can_5 : decode prog_19_method_4_code 5 = .ok (.sipush 255, 3) := by decide +kernel
theorem dq_can_8 : decode prog_19_method_4_code 8 = .ok (.if_icmp .gt 7, 3) := by decide +kernel
theorem dq_can_11 : decode prog_19_method_4_code 11 = .ok (.iconst 1, 1) := by decide +kernel
theorem dq_can_12 : decode prog_19_method_4_code 12 = .ok (.goto 4, 3) := by decide +kernel
theorem dq_can_16 : decode prog_19_method_4_code 16 = .ok (.ireturn, 1) := by decide +kernel
def yq_ioc : MethodName := ⟨"java/lang/StringLatin1", "indexOfChar", "([BIII)I"⟩
theorem wq_ioc : Cond.code yq_ioc prog_19_method_23_code 6 (some .int) ∈ lw_tbl := List.mem_of_getElem? (i := 714) (by decide +kernel)
theorem dq_ioc_0 : decode prog_19_method_23_code 0 = .ok (.iload_n 1, 1) := by decide +kernel
theorem dq_ioc_1 : decode prog_19_method_23_code 1 = .ok (.i2b, 1) := by decide +kernel
theorem dq_ioc_2 : decode prog_19_method_23_code 2 = .ok (.istore 4, 2) := by decide +kernel
theorem dq_ioc_4 : decode prog_19_method_23_code 4 = .ok (.iload_n 2, 1) := by decide +kernel
theorem dq_ioc_5 : decode prog_19_method_23_code 5 = .ok (.istore 5, 2) := by decide +kernel
theorem dq_ioc_7 : decode prog_19_method_23_code 7 = .ok (.iload 5, 2) := by decide +kernel
theorem dq_ioc_9 : decode prog_19_method_23_code 9 = .ok (.iload_n 3, 1) := by decide +kernel
theorem dq_ioc_10 : decode prog_19_method_23_code 10 = .ok (.if_icmp .ge 21, 3) := by decide +kernel
theorem dq_ioc_13 : decode prog_19_method_23_code 13 = .ok (.aload_n 0, 1) := by decide +kernel
theorem dq_ioc_14 : decode prog_19_method_23_code 14 = .ok (.iload 5, 2) := by decide +kernel
theorem dq_ioc_16 : decode prog_19_method_23_code 16 = .ok (.baload, 1) := by decide +kernel
theorem dq_ioc_17 : decode prog_19_method_23_code 17 = .ok (.iload 4, 2) := by decide +kernel
theorem dq_ioc_19 : decode prog_19_method_23_code 19 = .ok (.if_icmp .ne 6, 3) := by decide +kernel
theorem dq_ioc_22 : decode prog_19_method_23_code 22 = .ok (.iload 5, 2) := by decide +kernel
theorem dq_ioc_24 : decode prog_19_method_23_code 24 = .ok (.ireturn, 1) := by decide +kernel
theorem dq_ioc_25 : decode prog_19_method_23_code 25 = .ok (.iinc 5 1, 3) := by decide +kernel
theorem dq_ioc_28 : decode prog_19_method_23_code 28 = .ok (.goto (-21), 3) := by decide +kernel
theorem dq_ioc_31 : decode prog_19_method_23_code 31 = .ok (.iconst (-1), 1) := by decide +kernel
theorem dq_ioc_32 : decode prog_19_method_23_code 32 = .ok (.ireturn, 1) := by decide +kernel
def yq_sio : MethodName := ⟨"java/lang/StringLatin1", "indexOf", "([BIII)I"⟩
theorem wq_sio : Cond.code yq_sio prog_19_method_22_code 4 (some .int) ∈ lw_tbl := List.mem_of_getElem? (i := 704) (by decide +kernel)
theorem dq_sio_0 : decode prog_19_method_22_code 0 = .ok (.iload_n 1, 1) := by decide +kernel
theorem dq_sio_1 : decode prog_19_method_22_code 1 = .ok (.invokestatic 88, 3) := by decide +kernel
theorem dq_sio_4 : decode prog_19_method_22_code 4 = .ok (.ifCond .ne 5, 3) := by decide +kernel
theorem dq_sio_9 : decode prog_19_method_22_code 9 = .ok (.iload_n 2, 1) := by decide +kernel
theorem dq_sio_10 : decode prog_19_method_22_code 10 = .ok (.iconst 0, 1) := by decide +kernel
theorem dq_sio_11 : decode prog_19_method_22_code 11 = .ok (.invokestatic 92, 3) := by decide +kernel
theorem dq_sio_14 : decode prog_19_method_22_code 14 = .ok (.istore_n 2, 1) := by decide +kernel
theorem dq_sio_15 : decode prog_19_method_22_code 15 = .ok (.iload_n 3, 1) := by decide +kernel
theorem dq_sio_16 : decode prog_19_method_22_code 16 = .ok (.aload_n 0, 1) := by decide +kernel
theorem dq_sio_17 : decode prog_19_method_22_code 17 = .ok (.arraylength, 1) := by decide +kernel
theorem dq_sio_18 : decode prog_19_method_22_code 18 = .ok (.invokestatic 38, 3) := by decide +kernel
theorem dq_sio_21 : decode prog_19_method_22_code 21 = .ok (.istore_n 3, 1) := by decide +kernel
theorem dq_sio_22 : decode prog_19_method_22_code 22 = .ok (.iload_n 2, 1) := by decide +kernel
theorem dq_sio_23 : decode prog_19_method_22_code 23 = .ok (.iload_n 3, 1) := by decide +kernel
theorem dq_sio_24 : decode prog_19_method_22_code 24 = .ok (.if_icmp .lt 5, 3) := by decide +kernel
theorem dq_sio_29 : decode prog_19_method_22_code 29 = .ok (.aload_n 0, 1) := by decide +kernel
theorem dq_sio_30 : decode prog_19_method_22_code 30 = .ok (.iload_n 1, 1) := by decide +kernel
theorem dq_sio_31 : decode prog_19_method_22_code 31 = .ok (.iload_n 2, 1) := by decide +kernel
theorem dq_sio_32 : decode prog_19_method_22_code 32 = .ok (.iload_n 3, 1) := by decide +kernel
theorem dq_sio_33 : decode prog_19_method_22_code 33 = .ok (.invokestatic 95, 3) := by decide +kernel
theorem dq_sio_36 : decode prog_19_method_22_code 36 = .ok (.ireturn, 1) := by decide +kernel
def yq_lat : MethodName := ⟨"java/lang/String", "isLatin1", "()Z"⟩
theorem wq_lat : Cond.code yq_lat prog_18_method_154_code 1 (some .boolean) ∈ lw_tbl := List.mem_of_getElem? (i := 691) (by decide +kernel)
theorem dq_lat_0 : decode prog_18_method_154_code 0 = .ok (.getstatic 38, 3) := by decide +kernel
theorem dq_lat_3 : decode prog_18_method_154_code 3 = .ok (.ifCond .eq 14, 3) := by decide +kernel
theorem dq_lat_6 : decode prog_18_method_154_code 6 = .ok (.aload_n 0, 1) := by decide +kernel
theorem dq_lat_7 : decode prog_18_method_154_code 7 = .ok (.getfield 15, 3) := by decide +kernel
theorem dq_lat_10 : decode prog_18_method_154_code 10 = .ok (.ifCond .ne 7, 3) := by decide +kernel
theorem dq_lat_13 : decode prog_18_method_154_code 13 = .ok (.iconst 1, 1) := by decide +kernel
theorem dq_lat_14 : decode prog_18_method_154_code 14 = .ok (.goto 4, 3) := by decide +kernel
theorem dq_lat_18 : decode prog_18_method_154_code 18 = .ok (.ireturn, 1) := by decide +kernel
def yq_cod : MethodName := ⟨"java/lang/String", "coder", "()B"⟩
theorem wq_cod : Cond.code yq_cod prog_18_method_152_code 1 (some .byte) ∈ lw_tbl := List.mem_of_getElem? (i := 701) (by decide +kernel)
theorem dq_cod_0 : decode prog_18_method_152_code 0 = .ok (.getstatic 38, 3) := by decide +kernel
theorem dq_cod_3 : decode prog_18_method_152_code 3 = .ok (.ifCond .eq 10, 3) := by decide +kernel
theorem dq_cod_6 : decode prog_18_method_152_code 6 = .ok (.aload_n 0, 1) := by decide +kernel
theorem dq_cod_7 : decode prog_18_method_152_code 7 = .ok (.getfield 15, 3) := by decide +kernel
theorem dq_cod_10 : decode prog_18_method_152_code 10 = .ok (.goto 4, 3) := by decide +kernel
theorem dq_cod_14 : decode prog_18_method_152_code 14 = .ok (.ireturn, 1) := by decide +kernel
def yq_len : MethodName := ⟨"java/lang/String", "length", "()I"⟩
theorem wq_len : Cond.code yq_len prog_18_method_54_code 1 (some .int) ∈ lw_tbl := List.mem_of_getElem? (i := 697) (by decide +kernel)
theorem dq_len_0 : decode prog_18_method_54_code 0 = .ok (.aload_n 0, 1) := by decide +kernel
theorem dq_len_1 : decode prog_18_method_54_code 1 = .ok (.getfield 9, 3) := by decide +kernel
theorem dq_len_4 : decode prog_18_method_54_code 4 = .ok (.arraylength, 1) := by decide +kernel
theorem dq_len_5 : decode prog_18_method_54_code 5 = .ok (.aload_n 0, 1) := by decide +kernel
theorem dq_len_6 : decode prog_18_method_54_code 6 = .ok (.invokevirtual 335, 3) := by decide +kernel
theorem dq_len_9 : decode prog_18_method_54_code 9 = .ok (.ishr, 1) := by decide +kernel
theorem dq_len_10 : decode prog_18_method_54_code 10 = .ok (.ireturn, 1) := by decide +kernel
def yq_ix2 : MethodName := ⟨"java/lang/String", "indexOf", "(II)I"⟩
theorem wq_ix2 : Cond.code yq_ix2 prog_18_method_80_code 3 (some .int) ∈ lw_tbl := List.mem_of_getElem? (i := 687) (by decide +kernel)
theorem dq_ix2_0 : decode prog_18_method_80_code 0 = .ok (.aload_n 0, 1) := by decide +kernel
theorem dq_ix2_1 : decode prog_18_method_80_code 1 = .ok (.invokevirtual 492, 3) := by decide +kernel
theorem dq_ix2_4 : decode prog_18_method_80_code 4 = .ok (.ifCond .eq 19, 3) := by decide +kernel
theorem dq_ix2_7 : decode prog_18_method_80_code 7 = .ok (.aload_n 0, 1) := by decide +kernel
theorem dq_ix2_8 : decode prog_18_method_80_code 8 = .ok (.getfield 9, 3) := by decide +kernel
theorem dq_ix2_11 : decode prog_18_method_80_code 11 = .ok (.iload_n 1, 1) := by decide +kernel
theorem dq_ix2_12 : decode prog_18_method_80_code 12 = .ok (.iload_n 2, 1) := by decide +kernel
theorem dq_ix2_13 : decode prog_18_method_80_code 13 = .ok (.aload_n 0, 1) := by decide +kernel
theorem dq_ix2_14 : decode prog_18_method_80_code 14 = .ok (.invokevirtual 505, 3) := by decide +kernel
theorem dq_ix2_17 : decode prog_18_method_80_code 17 = .ok (.invokestatic 637, 3) := by decide +kernel
theorem dq_ix2_20 : decode prog_18_method_80_code 20 = .ok (.goto 16, 3) := by decide +kernel
theorem dq_ix2_36 : decode prog_18_method_80_code 36 = .ok (.ireturn, 1) := by decide +kernel
def yq_ix1 : MethodName := ⟨"java/lang/String", "indexOf", "(I)I"⟩
theorem wq_ix1 : Cond.code yq_ix1 prog_18_method_79_code 2 (some .int) ∈ lw_tbl := List.mem_of_getElem? (i := 683) (by decide +kernel)
theorem dq_ix1_0 : decode prog_18_method_79_code 0 = .ok (.aload_n 0, 1) := by decide +kernel
theorem dq_ix1_1 : decode prog_18_method_79_code 1 = .ok (.iload_n 1, 1) := by decide +kernel
theorem dq_ix1_2 : decode prog_18_method_79_code 2 = .ok (.iconst 0, 1) := by decide +kernel
theorem dq_ix1_3 : decode prog_18_method_79_code 3 = .ok (.invokevirtual 633, 3) := by decide +kernel
theorem dq_ix1_6 : decode prog_18_method_79_code 6 = .ok (.ireturn, 1) := by decide +kernel
theorem wi_str : Cond.initialized "java/lang/String" ∈ lw_tbl := List.mem_of_getElem? (i := 104) (by decide +kernel)
theorem wi_sl : Cond.initialized "java/lang/StringLatin1" ∈ lw_tbl := List.mem_of_getElem? (i := 105) (by decide +kernel)
theorem wl_ix1 : Cond.methodLink "FrameRents$Reader" 139 yq_ix1 ∈ lw_tbl := List.mem_of_getElem? (i := 680) (by decide +kernel)
theorem wm_ix1 : Cond.instanceMethod yq_ix1 ∈ lw_tbl := List.mem_of_getElem? (i := 681) (by decide +kernel)
theorem wv_ix1 : Cond.selects "java/lang/String" yq_ix1 yq_ix1 ∈ lw_tbl := List.mem_of_getElem? (i := 682) (by decide +kernel)
theorem wl_ix2 : Cond.methodLink "java/lang/String" 633 yq_ix2 ∈ lw_tbl := List.mem_of_getElem? (i := 684) (by decide +kernel)
theorem wm_ix2 : Cond.instanceMethod yq_ix2 ∈ lw_tbl := List.mem_of_getElem? (i := 685) (by decide +kernel)
theorem wv_ix2 : Cond.selects "java/lang/String" yq_ix2 yq_ix2 ∈ lw_tbl := List.mem_of_getElem? (i := 686) (by decide +kernel)
theorem wl_lat : Cond.methodLink "java/lang/String" 492 yq_lat ∈ lw_tbl := List.mem_of_getElem? (i := 688) (by decide +kernel)
theorem wm_lat : Cond.instanceMethod yq_lat ∈ lw_tbl := List.mem_of_getElem? (i := 689) (by decide +kernel)
theorem wv_lat : Cond.selects "java/lang/String" yq_lat yq_lat ∈ lw_tbl := List.mem_of_getElem? (i := 690) (by decide +kernel)
theorem wf_cs : Cond.fieldLink "java/lang/String" 38 "java/lang/String" "COMPACT_STRINGS" "Z" ∈ lw_tbl := List.mem_of_getElem? (i := 692) (by decide +kernel)
theorem wl_len : Cond.methodLink "java/lang/String" 505 yq_len ∈ lw_tbl := List.mem_of_getElem? (i := 694) (by decide +kernel)
theorem wm_len : Cond.instanceMethod yq_len ∈ lw_tbl := List.mem_of_getElem? (i := 695) (by decide +kernel)
theorem wv_len : Cond.selects "java/lang/String" yq_len yq_len ∈ lw_tbl := List.mem_of_getElem? (i := 696) (by decide +kernel)
theorem wl_cod : Cond.methodLink "java/lang/String" 335 yq_cod ∈ lw_tbl := List.mem_of_getElem? (i := 698) (by decide +kernel)
theorem wm_cod : Cond.instanceMethod yq_cod ∈ lw_tbl := List.mem_of_getElem? (i := 699) (by decide +kernel)
theorem wv_cod : Cond.selects "java/lang/String" yq_cod yq_cod ∈ lw_tbl := List.mem_of_getElem? (i := 700) (by decide +kernel)
theorem wl_sio : Cond.methodLink "java/lang/String" 637 yq_sio ∈ lw_tbl := List.mem_of_getElem? (i := 702) (by decide +kernel)
theorem wt_sio : Cond.static yq_sio ∈ lw_tbl := List.mem_of_getElem? (i := 703) (by decide +kernel)
theorem wl_can : Cond.methodLink "java/lang/StringLatin1" 88 yq_can ∈ lw_tbl := List.mem_of_getElem? (i := 705) (by decide +kernel)
theorem wt_can : Cond.static yq_can ∈ lw_tbl := List.mem_of_getElem? (i := 706) (by decide +kernel)
theorem wl_max : Cond.methodLink "java/lang/StringLatin1" 92 Lib.Math.max.name ∈ lw_tbl := List.mem_of_getElem? (i := 708) (by decide +kernel)
theorem wl_min : Cond.methodLink "java/lang/StringLatin1" 38 Lib.Math.min.name ∈ lw_tbl := List.mem_of_getElem? (i := 709) (by decide +kernel)
theorem wl_ioc : Cond.methodLink "java/lang/StringLatin1" 95 yq_ioc ∈ lw_tbl := List.mem_of_getElem? (i := 712) (by decide +kernel)
theorem wt_ioc : Cond.static yq_ioc ∈ lw_tbl := List.mem_of_getElem? (i := 713) (by decide +kernel)
theorem wf_cod : Cond.fieldLink "java/lang/String" 15 "java/lang/String" "coder" "B" ∈ lw_tbl := List.mem_of_getElem? (i := 1941) (by decide +kernel)
theorem wf_val : Cond.fieldLink "java/lang/String" 9 "java/lang/String" "value" "[B" ∈ lw_tbl := List.mem_of_getElem? (i := 1942) (by decide +kernel)
theorem mq_can (l : Launch) (D : va_G) (cT : Nat → ClassId) (A : Nat × Nat × Nat) (aV : Nat) {ch : Int32} (h0 : ¬ ch < 0) (h1 : ch < 256) : Mj 0 yq_can prog_19_method_4_code 1 (some .boolean) l D cT A aV [.int ch] 1 := by
  refine Met.ofW (cc := prog_19_method_4_code) (maxL := 1) (ret := (some .boolean)) (by decide) rfl ?_
  intro p e s m args below meth c s₁ B hml hv
  obtain ⟨rfl, hC, hS⟩ := hv
  have hx := B.exec
  have hb := B.bytes
  have hown := findClass_of_methodNamed B.named
  have hr := B.returns
  obtain ⟨hS1, hS2, hS3, hS4, hS5, hS6⟩ := hS
  have hS : Sy A aV s s.heap := ⟨hS1, hS2, hS3, hS4, hS5, hS6⟩
  have hl := lv_entry [.int ch] (n := 1) (Nat.le_of_ble_eq_true rfl)
  rw [lg_entry_eq]
  generalize ((lg_sl [.int ch] ++ List.replicate (1 - (lg_sl [.int ch]).length) Slot.unset).toArray) = ls at hl ⊢
  refine lv_iload_n hx hb dq_can_0 rfl (lv_at hl 0 rfl) ?_
  refine lv_if_lt hx hb dq_can_1 (tgt := 15) rfl (fun q => absurd q h0) fun _ => ?_
  refine lv_iload_n hx hb dq_can_4 rfl (lv_at hl 0 rfl) ?_
  refine lv_sipush hx hb dq_can_5 (v := 255) (by decide) ?_
  refine lv_icmp_gt hx hb dq_can_8 (tgt := 15) rfl (fun q => absurd q (by rw [Int32.lt_iff_toInt_lt] at h1 q; rw [show (256 : Int32).toInt = 256 from by decide] at h1; rw [show (255 : Int32).toInt = 255 from by decide] at q; omega)) fun _ => ?_
  refine lv_iconst hx hb dq_can_11 (v := 1) (by decide) ?_
  refine lv_goto hx hb dq_can_12 (tgt := 16) rfl ?_
  exact W.zret hx hb hr (by decide) (fun t ht _ => ⟨rfl, ht⟩) (fun q hq => by cases hq) dq_can_16
def tqL : List Int32 := [103, 100, 115, 110, 121, 102, 104, 105, 111, 119]
theorem tq_step : ∀ j, j < 10 → ∀ b : Int32, idxL (tqL.drop j) (nI j) b = if b = tqL.getD j 0 then nI j else idxL (tqL.drop (j + 1)) (nI (j + 1)) b := by
  intro j hj b
  have : j = 0 ∨ j = 1 ∨ j = 2 ∨ j = 3 ∨ j = 4 ∨ j = 5 ∨ j = 6 ∨ j = 7 ∨ j = 8 ∨ j = 9 := by omega
  rcases this with rfl | rfl | rfl | rfl | rfl | rfl | rfl | rfl | rfl | rfl <;> rfl
theorem tq_nat : ∀ k, k < 256 → idxL (tqL.drop 0) (nI 0) ((nI k).toInt8.toInt32) = fsi (nI k) := by decide +kernel
theorem tq_all {ch : Int32} (h0 : ¬ ch < 0) (h1 : ch < 256) : idxL (tqL.drop 0) (nI 0) (ch.toInt8.toInt32) = fsi ch := by
  obtain ⟨j, hj, rfl⟩ := nI_of h0
  refine tq_nat j ?_
  have := (nI_ltI hj (show (256 : Nat) < 2 ^ 31 by decide)).mp h1
  exact this
theorem mq_ioc (l : Launch) (D : va_G) (cT : Nat → ClassId) (A : Nat × Nat × Nat) (aV : Nat) {ch : Int32} (h0 : ¬ ch < 0) (h1 : ch < 256) : Mj 0 yq_ioc prog_19_method_23_code 6 (some .int) l D cT A aV [.ref aV, .int ch, .int 0, .int 10] (fsi ch) := by
  refine Met.ofW (cc := prog_19_method_23_code) (maxL := 6) (ret := (some .int)) (by decide) rfl ?_
  intro p e s m args below meth c s₁ B hml hv
  obtain ⟨rfl, hC, hS⟩ := hv
  have hx := B.exec
  have hb := B.bytes
  have hown := findClass_of_methodNamed B.named
  have hr := B.returns
  obtain ⟨hS1, hS2, hS3, hS4, hS5, hS6⟩ := hS
  have hS : Sy A aV s s.heap := ⟨hS1, hS2, hS3, hS4, hS5, hS6⟩
  have hl := lv_entry [.ref aV, .int ch, .int 0, .int 10] (n := 6) (Nat.le_of_ble_eq_true rfl)
  rw [lg_entry_eq]
  generalize ((lg_sl [.ref aV, .int ch, .int 0, .int 10] ++ List.replicate (6 - (lg_sl [.ref aV, .int ch, .int 0, .int 10]).length) Slot.unset).toArray) = ls at hl ⊢
  refine lv_iload_n hx hb dq_ioc_0 rfl (lv_at hl 1 rfl) ?_
  refine lv_i2b hx hb dq_ioc_1 rfl ?_
  refine lv_istore hx hb dq_ioc_2 hl (by decide) rfl fun ls hl => ?_
  refine lv_iload_n hx hb dq_ioc_4 rfl (lv_at hl 3 rfl) ?_
  refine lv_istore hx hb dq_ioc_5 hl (by decide) rfl fun ls hl => ?_
  have hl := lv_sub hl [2, 5, 1, 0] rfl
  have key : ∀ n j : Nat, j + n = 10 → ∀ ls : Array Slot, lv_has ls 6 [(0, .ref aV), (3, .int 10), (4, .int (ch.toInt8.toInt32)), (5, .int (nI j))] → idxL (tqL.drop j) (nI j) (ch.toInt8.toInt32) = fsi ch →
      W p l e (headSpec [Cond.code yq_ioc prog_19_method_23_code 6 (some .int)] (RMj 0)).room s m ([.ref aV, .int ch, .int 0, .int 10] : List Value).toArray below meth c s.heap [] 0 0 (MQ below (PQ (fsi ch)) ([.ref aV, .int ch, .int 0, .int 10] : List Value).toArray s 0 0 (fun _ => False)) (F0 m 7 ls []) := by
    intro n
    induction n with
    | zero =>
      intro j hj ls hl hv
      obtain rfl : j = 10 := by omega
      refine lv_iload hx hb dq_ioc_7 (lv_at hl 3 rfl) ?_
      refine lv_iload_n hx hb dq_ioc_9 rfl (lv_at hl 1 rfl) ?_
      refine lv_icmp_ge hx hb dq_ioc_10 (tgt := 31) rfl (fun _ => ?_) (fun q => absurd (show (10 : Int32) ≤ nI 10 by decide) q)
      refine lv_iconst hx hb dq_ioc_31 (v := fsi ch) (by rw [← hv]; rfl) ?_
      exact W.iret hx hb hr (fun t ht _ => ⟨rfl, ht⟩) (fun q hq => by cases hq) dq_ioc_32
    | succ n ih =>
      intro j hj ls hl hv
      rw [tq_step j (by omega)] at hv
      refine lv_iload hx hb dq_ioc_7 (lv_at hl 3 rfl) ?_
      refine lv_iload_n hx hb dq_ioc_9 rfl (lv_at hl 1 rfl) ?_
      refine lv_icmp_ge hx hb dq_ioc_10 (tgt := 31) rfl (fun q => absurd q (nI_ge (show j < 10 by omega) (by decide))) (fun _ => ?_)
      refine lv_aload_n hx hb dq_ioc_13 rfl (lv_at hl 0 rfl) ?_
      refine lv_iload hx hb dq_ioc_14 (lv_at hl 3 rfl) ?_
      refine va_tb hx hb hS5 va_S.rf (nI_in (show j < 10 by omega) (by decide)) (v := .int (tqL.getD j 0)) (by rw [nI_clamp (by omega)]; rfl) dq_ioc_16 ?_
      refine lv_iload hx hb dq_ioc_17 (lv_at hl 2 rfl) ?_
      refine lv_icmp_ne hx hb dq_ioc_19 (tgt := 25) rfl (fun hne => ?_) (fun heq => ?_)
      · rw [if_neg (fun q => hne q.symm)] at hv
        refine lv_iinc hx hb dq_ioc_25 hl (k := 3) rfl (v := nI (j + 1)) (by rw [show Int32.ofInt 1 = 1 from by decide]; exact nI_1 j) (by decide) rfl fun ls hl => ?_
        refine lv_goto hx hb dq_ioc_28 (tgt := 7) rfl ?_
        exact ih (j + 1) (by omega) ls (lv_sub hl [1, 2, 3, 0] rfl) hv
      · rw [if_pos heq.symm] at hv
        refine lv_iload hx hb dq_ioc_22 (lv_at hl 3 rfl) ?_
        rw [hv]
        exact W.iret hx hb hr (fun t ht _ => ⟨rfl, ht⟩) (fun q hq => by cases hq) dq_ioc_24
  exact key 10 0 rfl ls hl (tq_all h0 h1)
theorem mq_sio (l : Launch) (D : va_G) (cT : Nat → ClassId) (A : Nat × Nat × Nat) (aV : Nat) {ch : Int32} (h0 : ¬ ch < 0) (h1 : ch < 256) : Mj 2 yq_sio prog_19_method_22_code 4 (some .int) l D cT A aV [.ref aV, .int ch, .int 0, .int 10] (fsi ch) := by
  refine Met.ofW (cc := prog_19_method_22_code) (maxL := 4) (ret := (some .int)) (by decide) rfl ?_
  intro p e s m args below meth c s₁ B hml hv
  obtain ⟨rfl, hC, hS⟩ := hv
  have hx := B.exec
  have hb := B.bytes
  have hown := findClass_of_methodNamed B.named
  have hr := B.returns
  obtain ⟨hS1, hS2, hS3, hS4, hS5, hS6⟩ := hS
  have hS : Sy A aV s s.heap := ⟨hS1, hS2, hS3, hS4, hS5, hS6⟩
  have hl := lv_entry [.ref aV, .int ch, .int 0, .int 10] (n := 4) (Nat.le_of_ble_eq_true rfl)
  rw [lg_entry_eq]
  generalize ((lg_sl [.ref aV, .int ch, .int 0, .int 10] ++ List.replicate (4 - (lg_sl [.ref aV, .int ch, .int 0, .int 10]).length) Slot.unset).toArray) = ls at hl ⊢
  refine lv_iload_n hx hb dq_sio_0 rfl (lv_at hl 1 rfl) ?_
  refine jS hx hb (hml.trans hl.1.symm) hown hC hS (mq_can l D cT A aV h0 h1) wq_can wl_can wt_can wi_sl (n := 1) (by decide +kernel) rfl (by decide) (by decide) (by decide) (by decide) (by decide) dq_sio_1 (av := [.int ch]) (rest := []) rfl ?_
  refine lv_if_ne hx hb dq_sio_4 (tgt := 9) rfl (fun _ => ?_) (fun q => absurd q (by decide))
  refine lv_iload_n hx hb dq_sio_9 rfl (lv_at hl 2 rfl) ?_
  refine lv_iconst hx hb dq_sio_10 (v := 0) (by decide) ?_
  refine va_mmax hx hb (hml.trans hl.1.symm) hown (hC.1 _ wl_max rfl _) (hC.1 _ mw_max.1 rfl _) (hC.1 _ mw_max.2.2 rfl _) (hC.1 _ mw_max.2.1 rfl _) (by decide) (by decide) (by decide) (by decide) dq_sio_11 ?_
  refine lv_topi fun y hy => ?_
  obtain rfl : y = 0 := hy.trans (by decide)
  refine lv_istore_n hx hb dq_sio_14 rfl hl (by decide) rfl fun ls hl => ?_
  refine lv_iload_n hx hb dq_sio_15 rfl (lv_at hl 3 rfl) ?_
  refine lv_aload_n hx hb dq_sio_16 rfl (lv_at hl 1 rfl) ?_
  refine va_tlen hx hb hS5 va_S.rf (v := 10) (by decide) dq_sio_17 ?_
  refine va_mmin hx hb (hml.trans hl.1.symm) hown (hC.1 _ wl_min rfl _) (hC.1 _ mw_min.1 rfl _) (hC.1 _ mw_max.2.2 rfl _) (hC.1 _ mw_min.2 rfl _) (by decide) (by decide) (by decide) (by decide) dq_sio_18 ?_
  refine lv_topi fun y hy => ?_
  obtain rfl : y = 10 := hy.trans (by decide)
  refine lv_istore_n hx hb dq_sio_21 rfl hl (by decide) rfl fun ls hl => ?_
  have hl := lv_sub hl [2, 3, 1, 0] rfl
  refine lv_iload_n hx hb dq_sio_22 rfl (lv_at hl 2 rfl) ?_
  refine lv_iload_n hx hb dq_sio_23 rfl (lv_at hl 3 rfl) ?_
  refine lv_icmp_lt hx hb dq_sio_24 (tgt := 29) rfl (fun _ => ?_) (fun q => absurd (show (0 : Int32) < 10 by decide) q)
  refine lv_aload_n hx hb dq_sio_29 rfl (lv_at hl 0 rfl) ?_
  refine lv_iload_n hx hb dq_sio_30 rfl (lv_at hl 1 rfl) ?_
  refine lv_iload_n hx hb dq_sio_31 rfl (lv_at hl 2 rfl) ?_
  refine lv_iload_n hx hb dq_sio_32 rfl (lv_at hl 3 rfl) ?_
  refine jS hx hb (hml.trans hl.1.symm) hown hC hS (mq_ioc l D cT A aV h0 h1) wq_ioc wl_ioc wt_ioc wi_sl (n := 4) (by decide +kernel) rfl (by decide) (by decide) (by decide) (by decide) (by decide) dq_sio_33 (av := [.ref aV, .int ch, .int 0, .int 10]) (rest := []) rfl ?_
  exact W.iret hx hb hr (fun t ht _ => ⟨rfl, ht⟩) (fun q hq => by cases hq) dq_sio_36
theorem mq_lat (l : Launch) (D : va_G) (cT : Nat → ClassId) (A : Nat × Nat × Nat) (aV : Nat)  : Mj 0 yq_lat prog_18_method_154_code 1 (some .boolean) l D cT A aV [.ref A.2.2] 1 := by
  refine Met.ofW (cc := prog_18_method_154_code) (maxL := 1) (ret := (some .boolean)) (by decide) rfl ?_
  intro p e s m args below meth c s₁ B hml hv
  obtain ⟨rfl, hC, hS⟩ := hv
  have hx := B.exec
  have hb := B.bytes
  have hown := findClass_of_methodNamed B.named
  have hr := B.returns
  obtain ⟨hS1, hS2, hS3, hS4, hS5, hS6⟩ := hS
  have hS : Sy A aV s s.heap := ⟨hS1, hS2, hS3, hS4, hS5, hS6⟩
  have hl := lv_entry [.ref A.2.2] (n := 1) (Nat.le_of_ble_eq_true rfl)
  rw [lg_entry_eq]
  generalize ((lg_sl [.ref A.2.2] ++ List.replicate (1 - (lg_sl [.ref A.2.2]).length) Slot.unset).toArray) = ls at hl ⊢
  refine va_gets hx hb hS6 va_S.rf hown (hC.1 _ wf_cs rfl _) (fun _ h => h) dq_lat_0 ?_
  refine lv_if_eq hx hb dq_lat_3 (tgt := 17) rfl (fun q => absurd q (by decide)) (fun _ => ?_)
  refine lv_aload_n hx hb dq_lat_6 rfl (lv_at hl 0 rfl) ?_
  refine vk_getf hx hb hS3 va_S.rf hown (hC.1 _ wf_cod rfl _) (fun _ h => h) dq_lat_7 ?_
  refine lv_if_ne hx hb dq_lat_10 (tgt := 17) rfl (fun q => absurd rfl q) (fun _ => ?_)
  refine lv_iconst hx hb dq_lat_13 (v := 1) (by decide) ?_
  refine lv_goto hx hb dq_lat_14 (tgt := 18) rfl ?_
  exact W.zret hx hb hr (by decide) (fun t ht _ => ⟨rfl, ht⟩) (fun q hq => by cases hq) dq_lat_18
theorem mq_cod (l : Launch) (D : va_G) (cT : Nat → ClassId) (A : Nat × Nat × Nat) (aV : Nat)  : Mj 0 yq_cod prog_18_method_152_code 1 (some .byte) l D cT A aV [.ref A.2.2] 0 := by
  refine Met.ofW (cc := prog_18_method_152_code) (maxL := 1) (ret := (some .byte)) (by decide) rfl ?_
  intro p e s m args below meth c s₁ B hml hv
  obtain ⟨rfl, hC, hS⟩ := hv
  have hx := B.exec
  have hb := B.bytes
  have hown := findClass_of_methodNamed B.named
  have hr := B.returns
  obtain ⟨hS1, hS2, hS3, hS4, hS5, hS6⟩ := hS
  have hS : Sy A aV s s.heap := ⟨hS1, hS2, hS3, hS4, hS5, hS6⟩
  have hl := lv_entry [.ref A.2.2] (n := 1) (Nat.le_of_ble_eq_true rfl)
  rw [lg_entry_eq]
  generalize ((lg_sl [.ref A.2.2] ++ List.replicate (1 - (lg_sl [.ref A.2.2]).length) Slot.unset).toArray) = ls at hl ⊢
  refine va_gets hx hb hS6 va_S.rf hown (hC.1 _ wf_cs rfl _) (fun _ h => h) dq_cod_0 ?_
  refine lv_if_eq hx hb dq_cod_3 (tgt := 13) rfl (fun q => absurd q (by decide)) (fun _ => ?_)
  refine lv_aload_n hx hb dq_cod_6 rfl (lv_at hl 0 rfl) ?_
  refine vk_getf hx hb hS3 va_S.rf hown (hC.1 _ wf_cod rfl _) (fun _ h => h) dq_cod_7 ?_
  refine lv_goto hx hb dq_cod_10 (tgt := 14) rfl ?_
  exact W.zret hx hb hr (by decide) (fun t ht _ => ⟨rfl, ht⟩) (fun q hq => by cases hq) dq_cod_14
theorem mq_len (l : Launch) (D : va_G) (cT : Nat → ClassId) (A : Nat × Nat × Nat) (aV : Nat)  : Mj 1 yq_len prog_18_method_54_code 1 (some .int) l D cT A aV [.ref A.2.2] 10 := by
  refine Met.ofW (cc := prog_18_method_54_code) (maxL := 1) (ret := (some .int)) (by decide) rfl ?_
  intro p e s m args below meth c s₁ B hml hv
  obtain ⟨rfl, hC, hS⟩ := hv
  have hx := B.exec
  have hb := B.bytes
  have hown := findClass_of_methodNamed B.named
  have hr := B.returns
  obtain ⟨hS1, hS2, hS3, hS4, hS5, hS6⟩ := hS
  have hS : Sy A aV s s.heap := ⟨hS1, hS2, hS3, hS4, hS5, hS6⟩
  have hl := lv_entry [.ref A.2.2] (n := 1) (Nat.le_of_ble_eq_true rfl)
  rw [lg_entry_eq]
  generalize ((lg_sl [.ref A.2.2] ++ List.replicate (1 - (lg_sl [.ref A.2.2]).length) Slot.unset).toArray) = ls at hl ⊢
  refine lv_aload_n hx hb dq_len_0 rfl (lv_at hl 0 rfl) ?_
  refine vk_getf hx hb hS4 va_S.rf hown (hC.1 _ wf_val rfl _) (fun _ h => h) dq_len_1 ?_
  refine va_tlen hx hb hS5 va_S.rf (v := 10) (by decide) dq_len_4 ?_
  refine lv_aload_n hx hb dq_len_5 rfl (lv_at hl 0 rfl) ?_
  refine jV hx hb (hml.trans hl.1.symm) hown hC hS (mq_cod l D cT A aV) wq_cod wl_cod wm_cod wv_cod wi_str (n := 0) (by decide +kernel) rfl (by decide) (by decide) (by decide) (by decide) (by decide) dq_len_6 (av := []) (rest := [.int 10]) rfl ?_
  refine lv_ishr hx hb dq_len_9 ?_
  refine lv_topi fun y hy => ?_
  obtain rfl : y = 10 := hy.trans (by decide)
  exact W.iret hx hb hr (fun t ht _ => ⟨rfl, ht⟩) (fun q hq => by cases hq) dq_len_10
theorem mq_ix2 (l : Launch) (D : va_G) (cT : Nat → ClassId) (A : Nat × Nat × Nat) (aV : Nat) {ch : Int32} (h0 : ¬ ch < 0) (h1 : ch < 256) : Mj 3 yq_ix2 prog_18_method_80_code 3 (some .int) l D cT A aV [.ref A.2.2, .int ch, .int 0] (fsi ch) := by
  refine Met.ofW (cc := prog_18_method_80_code) (maxL := 3) (ret := (some .int)) (by decide) rfl ?_
  intro p e s m args below meth c s₁ B hml hv
  obtain ⟨rfl, hC, hS⟩ := hv
  have hx := B.exec
  have hb := B.bytes
  have hown := findClass_of_methodNamed B.named
  have hr := B.returns
  obtain ⟨hS1, hS2, hS3, hS4, hS5, hS6⟩ := hS
  have hS : Sy A aV s s.heap := ⟨hS1, hS2, hS3, hS4, hS5, hS6⟩
  have hl := lv_entry [.ref A.2.2, .int ch, .int 0] (n := 3) (Nat.le_of_ble_eq_true rfl)
  rw [lg_entry_eq]
  generalize ((lg_sl [.ref A.2.2, .int ch, .int 0] ++ List.replicate (3 - (lg_sl [.ref A.2.2, .int ch, .int 0]).length) Slot.unset).toArray) = ls at hl ⊢
  refine lv_aload_n hx hb dq_ix2_0 rfl (lv_at hl 0 rfl) ?_
  refine jV hx hb (hml.trans hl.1.symm) hown hC hS (mq_lat l D cT A aV) wq_lat wl_lat wm_lat wv_lat wi_str (n := 0) (by decide +kernel) rfl (by decide) (by decide) (by decide) (by decide) (by decide) dq_ix2_1 (av := []) (rest := []) rfl ?_
  refine lv_if_eq hx hb dq_ix2_4 (tgt := 23) rfl (fun q => absurd q (by decide)) (fun _ => ?_)
  refine lv_aload_n hx hb dq_ix2_7 rfl (lv_at hl 0 rfl) ?_
  refine vk_getf hx hb hS4 va_S.rf hown (hC.1 _ wf_val rfl _) (fun _ h => h) dq_ix2_8 ?_
  refine lv_iload_n hx hb dq_ix2_11 rfl (lv_at hl 1 rfl) ?_
  refine lv_iload_n hx hb dq_ix2_12 rfl (lv_at hl 2 rfl) ?_
  refine lv_aload_n hx hb dq_ix2_13 rfl (lv_at hl 0 rfl) ?_
  refine jV hx hb (hml.trans hl.1.symm) hown hC hS (mq_len l D cT A aV) wq_len wl_len wm_len wv_len wi_str (n := 0) (by decide +kernel) rfl (by decide) (by decide) (show (3 : Nat) ≤ 8 by decide) (by decide) (by decide) dq_ix2_14 (av := []) (rest := [.int 0, .int ch, .ref aV]) rfl ?_
  refine jS hx hb (hml.trans hl.1.symm) hown hC hS (mq_sio l D cT A aV h0 h1) wq_sio wl_sio wt_sio wi_sl (n := 4) (by decide +kernel) rfl (by decide) (by decide) (by decide) (by decide) (by decide) dq_ix2_17 (av := [.ref aV, .int ch, .int 0, .int 10]) (rest := []) rfl ?_
  refine lv_goto hx hb dq_ix2_20 (tgt := 36) rfl ?_
  exact W.iret hx hb hr (fun t ht _ => ⟨rfl, ht⟩) (fun q hq => by cases hq) dq_ix2_36
theorem mq_ix1 (l : Launch) (D : va_G) (cT : Nat → ClassId) (A : Nat × Nat × Nat) (aV : Nat) {ch : Int32} (h0 : ¬ ch < 0) (h1 : ch < 256) : Mj 4 yq_ix1 prog_18_method_79_code 2 (some .int) l D cT A aV [.ref A.2.2, .int ch] (fsi ch) := by
  refine Met.ofW (cc := prog_18_method_79_code) (maxL := 2) (ret := (some .int)) (by decide) rfl ?_
  intro p e s m args below meth c s₁ B hml hv
  obtain ⟨rfl, hC, hS⟩ := hv
  have hx := B.exec
  have hb := B.bytes
  have hown := findClass_of_methodNamed B.named
  have hr := B.returns
  obtain ⟨hS1, hS2, hS3, hS4, hS5, hS6⟩ := hS
  have hS : Sy A aV s s.heap := ⟨hS1, hS2, hS3, hS4, hS5, hS6⟩
  have hl := lv_entry [.ref A.2.2, .int ch] (n := 2) (Nat.le_of_ble_eq_true rfl)
  rw [lg_entry_eq]
  generalize ((lg_sl [.ref A.2.2, .int ch] ++ List.replicate (2 - (lg_sl [.ref A.2.2, .int ch]).length) Slot.unset).toArray) = ls at hl ⊢
  refine lv_aload_n hx hb dq_ix1_0 rfl (lv_at hl 0 rfl) ?_
  refine lv_iload_n hx hb dq_ix1_1 rfl (lv_at hl 1 rfl) ?_
  refine lv_iconst hx hb dq_ix1_2 (v := 0) (by decide) ?_
  refine jV hx hb (hml.trans hl.1.symm) hown hC hS (mq_ix2 l D cT A aV h0 h1) wq_ix2 wl_ix2 wm_ix2 wv_ix2 wi_str (n := 2) (by decide +kernel) rfl (by decide) (by decide) (by decide) (by decide) (by decide) dq_ix1_3 (av := [.int ch, .int 0]) (rest := []) rfl ?_
  exact W.iret hx hb hr (fun t ht _ => ⟨rfl, ht⟩) (fun q hq => by cases hq) dq_ix1_6
