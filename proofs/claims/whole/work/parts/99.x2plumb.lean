/-! the law's start: the tables, the script, the text -/
set_option maxRecDepth 100000 in
theorem pw_str : Cond.stringRef "FrameRents$Reader" 137 "gdsnyfhiow" ∈ lw_tbl := List.mem_of_getElem? (i := 679) (by decide +kernel)
set_option maxRecDepth 100000 in
theorem pw_cs : Cond.laysStatic "java/lang/String" "COMPACT_STRINGS" "Z" ∈ lw_tbl ∧ Cond.initialized "java/lang/String" ∈ lw_tbl := by decide +kernel
set_option maxRecDepth 100000 in
theorem pw_ao : Cond.arrayOver (.object "FrameRents$Sheet") ∈ lw_tbl ∧ Cond.arrayOver (.array .int) ∈ lw_tbl ∧ Cond.arrayOver (.array .long) ∈ lw_tbl := by decide +kernel
theorem SZ_336 : SZ 336 ≤ 7302250 := by decide +kernel
section
variable {s : State} {b : Nat}
theorem pl_words (hts : ∀ w ∈ lw_tbl, w.before #[Value.ref b] s = true) : ∀ w ∈ lw_tbl, gw w = true → ∀ a : Array Value, w.before a s = true := fun w hw hg a => by
  have h := hts w hw
  unfold gw at hg
  rcases Bool.or_eq_true _ _ ▸ hg with h1 | h1
  · exact word_at (State.WarmedH.refl s) (good_of_word h1) h
  · cases w <;> first | exact va_Nw.use rfl (va_Nw.of rfl h) | (exact absurd h1 (by decide)) | (cases h1; done)
theorem pl_kn (hts : ∀ w ∈ lw_tbl, w.before #[Value.ref b] s = true) : ∀ i, i < 13 → ∃ (cC : ClassId) (iS : Nat → Nat), u_Kn s (RC i) (TC i) (nf i) cC iS := by
  have go : ∀ (i : Nat) (f : Nat → Nat) (j : Nat), (∀ k, k < nf i → lw_tbl[f k]? = some (u_lay (RC i) (TC i) k)) → lw_tbl[j]? = some (Cond.instantiable (RC i) (nf i)) → ∃ (cC : ClassId) (iS : Nat → Nat), u_Kn s (RC i) (TC i) (nf i) cC iS := fun i f j h1 h2 =>
    u_known hts (fun w hw => by
      obtain ⟨k, hk, rfl⟩ := List.mem_map.mp hw
      exact List.mem_of_getElem? (h1 k (List.mem_range.mp hk))) (hts _ (List.mem_of_getElem? h2))
  intro i hi
  rcases (show i = 0 ∨ i = 1 ∨ i = 2 ∨ i = 3 ∨ i = 4 ∨ i = 5 ∨ i = 6 ∨ i = 7 ∨ i = 8 ∨ i = 9 ∨ i = 10 ∨ i = 11 ∨ i = 12 by omega) with rfl | rfl | rfl | rfl | rfl | rfl | rfl | rfl | rfl | rfl | rfl | rfl | rfl
  · exact go 0 _ _ uw_0 ui_0.1
  · exact go 1 _ _ uw_1 ui_1.1
  · exact go 2 _ _ uw_2 ui_2.1
  · exact go 3 _ _ uw_3 ui_3.1
  · exact go 4 _ _ uw_4 ui_4.1
  · exact go 5 _ _ uw_5 ui_5.1
  · exact go 6 _ _ uw_6 ui_6.1
  · exact go 7 _ _ uw_7 ui_7.1
  · exact go 8 _ _ uw_8 ui_8.1
  · exact go 9 _ _ uw_9 ui_9.1
  · exact go 10 _ _ uw_10 ui_10.1
  · exact go 11 _ _ uw_11 ui_11.1
  · exact go 12 _ _ uw_12 ui_12.1
theorem pl_ar {args : Array Value} {ty : FieldType} (h : (Cond.arrayClass ty).before args s = true) (hn : ∀ C, ty ≠ .object C) : ∃ cA : ClassId, ArrOfT s cA ty ∧ va_RA s cA ty := by
  obtain ⟨c, k, comp, f1, f2, f3⟩ := Cond.arrayClass_spec (args := args) (first := s) (o := none) (s := s) (idx := []) h
  refine ⟨c, fun n z => ⟨fun k h => (by cases h), k, f2, comp, f3⟩, ?_⟩
  cases ty <;> first | exact f1 | exact absurd rfl (hn _)
theorem pl_ao {args : Array Value} {n : String} (h : (Cond.arrayOver (.object n)).before args s = true) : ∃ cA : ClassId, ArrOfT s cA (.object n) ∧ va_RA s cA (.object n) := by
  obtain ⟨comp, c, k, g1, g2, g3, g4, g5⟩ := Cond.arrayOver_spec (args := args) (first := s) (o := none) (s := s) (idx := []) h
  exact ⟨c, fun n z => ⟨fun k h => (by cases h), k, g3, comp, g4⟩, k, comp, g3, g4, g1, g5⟩
theorem pl_aa {args : Array Value} {t : FieldType} (h : (Cond.arrayOver (.array t)).before args s = true) : ∃ cA : ClassId, ArrOfT s cA (.array t) ∧ va_RA s cA (.array t) := by
  obtain ⟨comp, c, k, g1, g2, g3, g4⟩ := Cond.arrayOver_specA (args := args) (first := s) (o := none) (s := s) (idx := []) h
  exact ⟨c, fun n z => ⟨fun k h => (by cases h), k, g2, comp, g3⟩, g4⟩
theorem pl_C (hts : ∀ w ∈ lw_tbl, w.before #[Value.ref b] s = true) : ∃ (D : va_G) (cT : Nat → ClassId), Cx D cT s := by
  have hkn := pl_kn hts
  have hk2 : ∀ i : Nat, ∃ q : ClassId × (Nat → Nat), i < 13 → u_Kn s (RC i) (TC i) (nf i) q.1 q.2 := fun i => by
    by_cases hi : i < 13
    · obtain ⟨c, f, h⟩ := hkn i hi
      exact ⟨(c, f), fun _ => h⟩
    · exact ⟨(0, fun _ => 0), fun h => absurd h hi⟩
  obtain ⟨ad, had⟩ := Classical.axiomOfChoice hk2
  obtain ⟨a1, a2, a3⟩ := pw_ao
  obtain ⟨c20, e20⟩ := pl_ar (hts _ (arr_mem (.arrayClass .int) (by simp))) (fun C h => by cases h)
  obtain ⟨c21, e21⟩ := pl_ar (hts _ (arr_mem (.arrayClass .long) (by simp))) (fun C h => by cases h)
  obtain ⟨c22, e22⟩ := pl_ar (hts _ (arr_mem (.arrayClass .byte) (by simp))) (fun C h => by cases h)
  obtain ⟨c23, e23⟩ := pl_ar (hts _ (arr_mem (.arrayClass .char) (by simp))) (fun C h => by cases h)
  obtain ⟨c24, e24⟩ := pl_ar (hts _ (arr_mem (.arrayClass .boolean) (by simp))) (fun C h => by cases h)
  obtain ⟨c25, e25⟩ := pl_ao (hts _ a1)
  obtain ⟨c26, e26⟩ := pl_aa (hts _ a2)
  obtain ⟨c27, e27⟩ := pl_aa (hts _ a3)
  refine ⟨(fun i => (ad i).1, fun i => (ad i).2), fun k => if k = 20 then c20 else if k = 21 then c21 else if k = 22 then c22 else if k = 23 then c23 else if k = 24 then c24 else if k = 25 then c25 else if k = 26 then c26 else c27, pl_words hts, ⟨fun c q hq => ?_, fun k q hq => ?_⟩, fun t ht => ?_⟩
  · obtain ⟨hc, rfl⟩ : c < 13 ∧ q = (RC c, TC c, nf c) := by
      have h1 := hq
      simp only [List.getElem?_map, Option.map_eq_some_iff] at h1
      obtain ⟨a, h2, h3⟩ := h1
      have h4 := List.getElem?_eq_some_iff.mp h2
      obtain ⟨h5, h6⟩ := h4
      rw [List.length_range] at h5
      rw [List.getElem_range] at h6
      subst h6
      exact ⟨h5, h3.symm⟩
    exact had c hc
  · have hk : k < 8 := by
      have := (List.getElem?_eq_some_iff.mp hq).1
      exact this
    rcases (show k = 0 ∨ k = 1 ∨ k = 2 ∨ k = 3 ∨ k = 4 ∨ k = 5 ∨ k = 6 ∨ k = 7 by omega) with rfl | rfl | rfl | rfl | rfl | rfl | rfl | rfl <;> cases hq
    · exact e20
    · exact e21
    · exact e22
    · exact e23
    · exact e24
    · exact e25
    · exact e26
    · exact e27
  · simp only [List.mem_cons, List.not_mem_nil, or_false] at ht
    rcases ht with rfl | rfl | rfl
    · exact hts _ a1
    · exact hts _ a2
    · exact hts _ a3
theorem pl_S (hts : ∀ w ∈ lw_tbl, w.before #[Value.ref b] s = true) (hgv : (Jvm.Cond.and given_1 narrow_1).before #[Value.ref b] s = true) : ∃ aS : Nat, ∀ bb : Nat, Sx (s.heap.size, bb, aS) s s.heap := by
  have hs := flat_of_before _ hgv
  have hA : ∀ a : Nat, a < s.heap.size → ¬ (fun q : Nat => s.heap.size ≤ q) a := fun a h => Nat.not_le.mpr h
  obtain ⟨adK, adV, hS, hT⟩ := vk_Sof (args := #[Value.ref b]) (s := s) (N := 1) (tm := fun _ => .string "FrameRents$Reader" 137) (len := [10]) (byt := [[103, 100, 115, 110, 121, 102, 104, 105, 111, 119]]) (A := fun q : Nat => s.heap.size ≤ q)
    (fun i hi => by obtain rfl : i = 0 := by omega
                    decide)
    (fun i hi => hs _ (by decide +kernel))
    (fun i hi => hs _ (by decide +kernel))
    (fun i hi => hs _ (by decide +kernel))
    (fun i hi => by
      obtain rfl : i = 0 := by omega
      exact hs _ (by decide +kernel))
    (fun i hi j hj => by
      obtain rfl : i = 0 := by omega
      have hj : j < 10 := hj
      rcases (show j = 0 ∨ j = 1 ∨ j = 2 ∨ j = 3 ∨ j = 4 ∨ j = 5 ∨ j = 6 ∨ j = 7 ∨ j = 8 ∨ j = 9 by omega) with rfl | rfl | rfl | rfl | rfl | rfl | rfl | rfl | rfl | rfl <;> exact hs _ (by decide +kernel))
    (fun i j hi hj h => absurd (show i = j by omega) h) hA
  obtain ⟨p1, p2, p3, p4⟩ := hS.1 0 (by omega)
  have hlt : adK 0 < s.heap.size := by
    obtain ⟨cell, h1, -⟩ := p1
    exact (Array.getElem?_eq_some_iff.mp h1).1
  have hlv : adV 0 < s.heap.size := by
    obtain ⟨cell, h1, -⟩ := p4
    exact (Array.getElem?_eq_some_iff.mp h1).1
  refine ⟨adK 0, fun bb => ⟨hlt, vk_R.of (hts _ pw_str) (hT 0 (by omega)), adV 0, hlv, p1, p2, p3, p4, ?_⟩⟩
  exact va_Zof (hts _ pw_cs.1) (hts _ pw_cs.2) (va_eqi (hs _ (by decide +kernel))) hA
end
/-- from the entry, for every script of at most 4096 ints, the law comes to its end with true -/
theorem whole_start {p : Program} {e : Env} {s : State} {m : MethodId} {below : List Frame} {meth : Method} {c : Code} (l : Launch) (hflags : l.flags = flags0) {b L : Nat} {xs : Nat → Int32} (hL : L ≤ 4096) (C0 : lw_At p s m meth c b L xs) : W p l e room_1 s m #[Value.ref b] below meth c s.heap [] 0 0 (lw_Z below #[Value.ref b] s) (entryFrame m ([Value.ref b] : List Value).toArray 4) := by
  obtain ⟨hx, hb, hr, hml, hown, hts, hX, hbl, hlocks, hgv⟩ := id C0
  obtain ⟨D, cT, hC⟩ := pl_C hts
  obtain ⟨aS, hS⟩ := pl_S hts hgv
  obtain ⟨Mz, hz⟩ := law_all hL xs
  have R := lw_go (d := 103) (by omega) hz
  rw [lg_entry_eq]
  have hLR := LR_entry (s.heap.size, b, aS) (n := 4) [.retAddr 1] (by decide)
  have hHR : HR D cT (s.heap.size, b, aS) (0, rS, iS (nI L) xs, lS) s s.heap := by
    have e98 : iS (nI L) xs 9998 0 = nI L := if_pos rfl
    refine ⟨rfl, fun k q h => ?_, ⟨hbl, ?_, ?_⟩, hS b⟩
    · simp [wM] at h
    · show Int32.ofNat (iS (nI L) xs 9998 0).toNatClampNeg = iS (nI L) xs 9998 0
      rw [e98, nI_cl (by omega)]; rfl
    · show va_X b (iS (nI L) xs 9998 0).toNatClampNeg (iS (nI L) xs 9999) s s.heap
      rw [e98, nI_cl (by omega)]
      have e99 : iS (nI L) xs 9999 = xs := by
        funext i
        unfold iS
        rw [if_neg (by omega), if_pos rfl]
      rw [e99]; exact hX
  refine R.2 p l e room_1 s m #[Value.ref b] below meth c (lw_Z below #[Value.ref b] s) D cT (s.heap.size, b, aS) 336 (SZ 336) ?_ s.heap [] 0 0 _ ⟨Nat.zero_le _, rfl, ?_, va_S.rf, hHR, hLR⟩
  · refine ⟨hx, hb, hml, hown, fun q => absurd q (by decide +kernel), hC, by decide, by decide, by decide, SZ_336, Nat.le_refl _, okm_1400.1, by omega, ?_⟩
    intro H1 locs1 pc ls2 ins hdc hri hrv hS1 hH1
    refine va_forget (fun q hq => hS1.2.2 q hq) ?_
    refine W.widen (k := 600000) (n := 7302250) (by omega) SZ_336 ?_
    obtain rfl : ins = .ireturn := hri
    exact lw_ret hx hb hr hlocks hdc
  · show 0 + (SZ 336 - SZ 0) = SZ 336
    rw [Nat.zero_add, show SZ 0 = 0 from rfl, Nat.sub_zero]
