theorem law_lt {len i : Nat} (h : len < i + 8) (hl : len < 1000000) (hi : i < 1000000) : nI len - (8 : Int32) < nI i := by
  by_cases q : 8 ≤ len
  · rw [show (8 : Int32) = nI 8 from rfl, nI_subN q]
    exact (nI_ltI (by omega) (by omega)).mpr (by omega)
  · have e : nI len - (8 : Int32) < 0 := by
      rw [show (8 : Int32) = nI 8 from rfl, nI_sub_lt len 8 (by omega) (by omega)]; omega
    rw [Int32.lt_iff_toInt_lt] at e ⊢
    rw [nI_toInt (by omega)]
    rw [show (0 : Int32).toInt = 0 from rfl] at e
    omega
theorem law_nlt {len i : Nat} (h : i + 8 ≤ len) (hl : len < 1000000) : ¬ nI len - (8 : Int32) < nI i := by
  rw [show (8 : Int32) = nI 8 from rfl, nI_subN (by omega)]
  exact nI_nlt (by omega) (by omega)
/-! the law's loop: it always ends, and answers 1 -/
section
variable {M0 : SM} {len : Nat}
theorem law_go (e98 : M0.1 9998 0 = nI len) (hlen : len ≤ 4096) : ∀ (n fu i : Nat) (M : SM), len - i ≤ n → n < fu → Inv M → Sc M0 M → i ≤ len + 8 → ∃ Mz, qlw_law_L18 fu (nI i) M = some (1, Mz) := by
  intro n
  induction n with
  | zero =>
    intro fu i M hi hfu hI hS hle
    obtain ⟨fu, rfl⟩ : ∃ y, fu = y + 1 := ⟨fu - 1, by omega⟩
    refine ⟨M, ?_⟩
    unfold qlw_law_L18
    rw [if_pos (by rw [hS 9998 0 (by omega), e98]; exact law_lt (by omega) (by omega) (by omega))]
  | succ n ih =>
    intro fu i M hi hfu hI hS hle
    obtain ⟨fu, rfl⟩ : ∃ y, fu = y + 1 := ⟨fu - 1, by omega⟩
    unfold qlw_law_L18
    have q98 : M.1 9998 0 = nI len := by rw [hS 9998 0 (by omega), e98]
    by_cases hend : len < i + 8
    · exact ⟨M, by rw [if_pos (by rw [q98]; exact law_lt hend (by omega) (by omega))]⟩
    rw [if_neg (by rw [q98]; exact law_nlt (by omega) (by omega))]
    have ib0 : ib len (nI i) = true := ib_n (by omega) (by omega)
    have ib1 : ib len (nI (i + 1)) = true := ib_n (by omega) (by omega)
    have ad1 : nI i + (1 : Int32) = nI (i + 1) := nI_add i 1
    have cl1 : Int32.toNatClampNeg (nI (i + 1)) = i + 1 := nI_cl (by omega)
    have ib2 : ib len (nI (i + 2)) = true := ib_n (by omega) (by omega)
    have ad2 : nI i + (2 : Int32) = nI (i + 2) := nI_add i 2
    have cl2 : Int32.toNatClampNeg (nI (i + 2)) = i + 2 := nI_cl (by omega)
    have ib3 : ib len (nI (i + 3)) = true := ib_n (by omega) (by omega)
    have ad3 : nI i + (3 : Int32) = nI (i + 3) := nI_add i 3
    have cl3 : Int32.toNatClampNeg (nI (i + 3)) = i + 3 := nI_cl (by omega)
    have ib4 : ib len (nI (i + 4)) = true := ib_n (by omega) (by omega)
    have ad4 : nI i + (4 : Int32) = nI (i + 4) := nI_add i 4
    have cl4 : Int32.toNatClampNeg (nI (i + 4)) = i + 4 := nI_cl (by omega)
    have ib5 : ib len (nI (i + 5)) = true := ib_n (by omega) (by omega)
    have ad5 : nI i + (5 : Int32) = nI (i + 5) := nI_add i 5
    have cl5 : Int32.toNatClampNeg (nI (i + 5)) = i + 5 := nI_cl (by omega)
    have ib6 : ib len (nI (i + 6)) = true := ib_n (by omega) (by omega)
    have ad6 : nI i + (6 : Int32) = nI (i + 6) := nI_add i 6
    have cl6 : Int32.toNatClampNeg (nI (i + 6)) = i + 6 := nI_cl (by omega)
    have ib7 : ib len (nI (i + 7)) = true := ib_n (by omega) (by omega)
    have ad7 : nI i + (7 : Int32) = nI (i + 7) := nI_add i 7
    have cl7 : Int32.toNatClampNeg (nI (i + 7)) = i + 7 := nI_cl (by omega)
    have ad8 : nI i + (8 : Int32) = nI (i + 8) := nI_add i 8
    have cl0 : Int32.toNatClampNeg (nI i) = i := nI_cl (by omega)
    have cle : Int32.toNatClampNeg (nI len) = len := nI_cl (by omega)
    have next : ∀ M2 : SM, Inv M2 → Sc M M2 → ∃ Mz, qlw_law_L18 fu (nI (i + 8)) M2 = some (1, Mz) := fun M2 i2 s2 => ih fu (i + 8) M2 (by omega) (by omega) i2 (hS.tr s2) (by omega)
    rw [ckb (show (ib (Int32.toNatClampNeg (M.1 9998 0)) (nI i) && true) = true by rw [q98, cle, ib0]; rfl)]
    by_cases h0 : ((M.1 9999 (Int32.toNatClampNeg (nI i))) &&& (63 : Int32)) = (0 : Int32)
    · rw [if_pos h0]
      obtain ⟨r, M1, M2, f1, f2, ⟨i2, s2⟩, s1⟩ := master_v hI (M.1 9999 (i + 1))
      have t98 : M1.1 9998 0 = nI len := by rw [s1 9998 0 (by omega), q98]
      have t99 : ∀ j, M1.1 9999 j = M.1 9999 j := fun j => s1 9999 j (by omega)
      simp only [q98, ck_t, cle, cl0, ad1, cl1, ib1, ad2, cl2, ib2, ad3, cl3, ib3, ad4, cl4, ib4, ad5, cl5, ib5, ad6, cl6, ib6, ad7, cl7, ib7, ad8, Bool.and_true, Bool.true_and]
      rw [f1, ob_s]
      simp only [t98, t99, ck_t, cle, cl0, ad1, cl1, ib1, ad2, cl2, ib2, ad3, cl3, ib3, ad4, cl4, ib4, ad5, cl5, ib5, ad6, cl6, ib6, ad7, cl7, ib7, ad8, Bool.and_true, Bool.true_and]
      rw [f2, ob_s, if_pos rfl]
      exact next M2 i2 s2
    rw [if_neg h0]
    by_cases h1 : ((M.1 9999 (Int32.toNatClampNeg (nI i))) &&& (63 : Int32)) = (1 : Int32)
    · rw [if_pos h1]
      obtain ⟨r, M1, M2, f1, f2, ⟨i2, s2⟩, s1⟩ := knitter_v hI (M.1 9999 (i + 1))
      have t98 : M1.1 9998 0 = nI len := by rw [s1 9998 0 (by omega), q98]
      have t99 : ∀ j, M1.1 9999 j = M.1 9999 j := fun j => s1 9999 j (by omega)
      simp only [q98, ck_t, cle, cl0, ad1, cl1, ib1, ad2, cl2, ib2, ad3, cl3, ib3, ad4, cl4, ib4, ad5, cl5, ib5, ad6, cl6, ib6, ad7, cl7, ib7, ad8, Bool.and_true, Bool.true_and]
      rw [f1, ob_s]
      simp only [t98, t99, ck_t, cle, cl0, ad1, cl1, ib1, ad2, cl2, ib2, ad3, cl3, ib3, ad4, cl4, ib4, ad5, cl5, ib5, ad6, cl6, ib6, ad7, cl7, ib7, ad8, Bool.and_true, Bool.true_and]
      rw [f2, ob_s, if_pos rfl]
      exact next M2 i2 s2
    rw [if_neg h1]
    by_cases h2 : ((M.1 9999 (Int32.toNatClampNeg (nI i))) &&& (63 : Int32)) = (2 : Int32)
    · rw [if_pos h2]
      obtain ⟨r, M1, M2, f1, f2, ⟨i2, s2⟩, s1⟩ := frame_v hI (M.1 9999 (i + 1)) (M.1 9999 (i + 2)) (M.1 9999 (i + 3))
      have t98 : M1.1 9998 0 = nI len := by rw [s1 9998 0 (by omega), q98]
      have t99 : ∀ j, M1.1 9999 j = M.1 9999 j := fun j => s1 9999 j (by omega)
      simp only [q98, ck_t, cle, cl0, ad1, cl1, ib1, ad2, cl2, ib2, ad3, cl3, ib3, ad4, cl4, ib4, ad5, cl5, ib5, ad6, cl6, ib6, ad7, cl7, ib7, ad8, Bool.and_true, Bool.true_and]
      rw [f1, ob_s]
      simp only [t98, t99, ck_t, cle, cl0, ad1, cl1, ib1, ad2, cl2, ib2, ad3, cl3, ib3, ad4, cl4, ib4, ad5, cl5, ib5, ad6, cl6, ib6, ad7, cl7, ib7, ad8, Bool.and_true, Bool.true_and]
      rw [f2, ob_s, if_pos rfl]
      exact next M2 i2 s2
    rw [if_neg h2]
    by_cases h3 : ((M.1 9999 (Int32.toNatClampNeg (nI i))) &&& (63 : Int32)) = (3 : Int32)
    · rw [if_pos h3]
      obtain ⟨r, M1, M2, f1, f2, ⟨i2, s2⟩, s1⟩ := hire_v hI (M.1 9999 (i + 1)) (M.1 9999 (i + 2))
      have t98 : M1.1 9998 0 = nI len := by rw [s1 9998 0 (by omega), q98]
      have t99 : ∀ j, M1.1 9999 j = M.1 9999 j := fun j => s1 9999 j (by omega)
      simp only [q98, ck_t, cle, cl0, ad1, cl1, ib1, ad2, cl2, ib2, ad3, cl3, ib3, ad4, cl4, ib4, ad5, cl5, ib5, ad6, cl6, ib6, ad7, cl7, ib7, ad8, Bool.and_true, Bool.true_and]
      rw [f1, ob_s]
      simp only [t98, t99, ck_t, cle, cl0, ad1, cl1, ib1, ad2, cl2, ib2, ad3, cl3, ib3, ad4, cl4, ib4, ad5, cl5, ib5, ad6, cl6, ib6, ad7, cl7, ib7, ad8, Bool.and_true, Bool.true_and]
      rw [f2, ob_s, if_pos rfl]
      exact next M2 i2 s2
    rw [if_neg h3]
    by_cases h4 : ((M.1 9999 (Int32.toNatClampNeg (nI i))) &&& (63 : Int32)) = (4 : Int32)
    · rw [if_pos h4]
      obtain ⟨r, M1, M2, f1, f2, ⟨i2, s2⟩, s1⟩ := back_v hI (M.1 9999 (i + 1))
      have t98 : M1.1 9998 0 = nI len := by rw [s1 9998 0 (by omega), q98]
      have t99 : ∀ j, M1.1 9999 j = M.1 9999 j := fun j => s1 9999 j (by omega)
      simp only [q98, ck_t, cle, cl0, ad1, cl1, ib1, ad2, cl2, ib2, ad3, cl3, ib3, ad4, cl4, ib4, ad5, cl5, ib5, ad6, cl6, ib6, ad7, cl7, ib7, ad8, Bool.and_true, Bool.true_and]
      rw [f1, ob_s]
      simp only [t98, t99, ck_t, cle, cl0, ad1, cl1, ib1, ad2, cl2, ib2, ad3, cl3, ib3, ad4, cl4, ib4, ad5, cl5, ib5, ad6, cl6, ib6, ad7, cl7, ib7, ad8, Bool.and_true, Bool.true_and]
      rw [f2, ob_s, if_pos rfl]
      exact next M2 i2 s2
    rw [if_neg h4]
    by_cases h5 : ((M.1 9999 (Int32.toNatClampNeg (nI i))) &&& (63 : Int32)) = (5 : Int32)
    · rw [if_pos h5]
      obtain ⟨r, M1, M2, f1, f2, ⟨i2, s2⟩, s1⟩ := feed_v hI (M.1 9999 (i + 1)) (M.1 9999 (i + 2)) (M.1 9999 (i + 3)) (M.1 9999 (i + 4)) (M.1 9999 (i + 5))
      have t98 : M1.1 9998 0 = nI len := by rw [s1 9998 0 (by omega), q98]
      have t99 : ∀ j, M1.1 9999 j = M.1 9999 j := fun j => s1 9999 j (by omega)
      simp only [q98, ck_t, cle, cl0, ad1, cl1, ib1, ad2, cl2, ib2, ad3, cl3, ib3, ad4, cl4, ib4, ad5, cl5, ib5, ad6, cl6, ib6, ad7, cl7, ib7, ad8, Bool.and_true, Bool.true_and]
      rw [f1, ob_s]
      simp only [t98, t99, ck_t, cle, cl0, ad1, cl1, ib1, ad2, cl2, ib2, ad3, cl3, ib3, ad4, cl4, ib4, ad5, cl5, ib5, ad6, cl6, ib6, ad7, cl7, ib7, ad8, Bool.and_true, Bool.true_and]
      rw [f2, ob_s, if_pos rfl]
      exact next M2 i2 s2
    rw [if_neg h5]
    by_cases h6 : ((M.1 9999 (Int32.toNatClampNeg (nI i))) &&& (63 : Int32)) = (6 : Int32)
    · rw [if_pos h6]
      obtain ⟨r, M1, M2, f1, f2, ⟨i2, s2⟩, s1⟩ := list_v hI (M.1 9999 (i + 1))
      have t98 : M1.1 9998 0 = nI len := by rw [s1 9998 0 (by omega), q98]
      have t99 : ∀ j, M1.1 9999 j = M.1 9999 j := fun j => s1 9999 j (by omega)
      simp only [q98, ck_t, cle, cl0, ad1, cl1, ib1, ad2, cl2, ib2, ad3, cl3, ib3, ad4, cl4, ib4, ad5, cl5, ib5, ad6, cl6, ib6, ad7, cl7, ib7, ad8, Bool.and_true, Bool.true_and]
      rw [f1, ob_s]
      simp only [t98, t99, ck_t, cle, cl0, ad1, cl1, ib1, ad2, cl2, ib2, ad3, cl3, ib3, ad4, cl4, ib4, ad5, cl5, ib5, ad6, cl6, ib6, ad7, cl7, ib7, ad8, Bool.and_true, Bool.true_and]
      rw [f2, ob_s, if_pos rfl]
      exact next M2 i2 s2
    rw [if_neg h6]
    by_cases h7 : ((M.1 9999 (Int32.toNatClampNeg (nI i))) &&& (63 : Int32)) = (7 : Int32)
    · rw [if_pos h7]
      obtain ⟨r, M1, M2, f1, f2, ⟨i2, s2⟩, s1⟩ := act_v hI (M.1 9999 (i + 1)) (M.1 9999 (i + 2)) (M.1 9999 (i + 3))
      have t98 : M1.1 9998 0 = nI len := by rw [s1 9998 0 (by omega), q98]
      have t99 : ∀ j, M1.1 9999 j = M.1 9999 j := fun j => s1 9999 j (by omega)
      simp only [q98, ck_t, cle, cl0, ad1, cl1, ib1, ad2, cl2, ib2, ad3, cl3, ib3, ad4, cl4, ib4, ad5, cl5, ib5, ad6, cl6, ib6, ad7, cl7, ib7, ad8, Bool.and_true, Bool.true_and]
      rw [f1, ob_s]
      simp only [t98, t99, ck_t, cle, cl0, ad1, cl1, ib1, ad2, cl2, ib2, ad3, cl3, ib3, ad4, cl4, ib4, ad5, cl5, ib5, ad6, cl6, ib6, ad7, cl7, ib7, ad8, Bool.and_true, Bool.true_and]
      rw [f2, ob_s, if_pos rfl]
      exact next M2 i2 s2
    rw [if_neg h7]
    by_cases h8 : ((M.1 9999 (Int32.toNatClampNeg (nI i))) &&& (63 : Int32)) = (8 : Int32)
    · rw [if_pos h8]
      obtain ⟨r, M1, M2, f1, f2, ⟨i2, s2⟩, s1⟩ := uses_v hI (M.1 9999 (i + 1)) (M.1 9999 (i + 2))
      have t98 : M1.1 9998 0 = nI len := by rw [s1 9998 0 (by omega), q98]
      have t99 : ∀ j, M1.1 9999 j = M.1 9999 j := fun j => s1 9999 j (by omega)
      simp only [q98, ck_t, cle, cl0, ad1, cl1, ib1, ad2, cl2, ib2, ad3, cl3, ib3, ad4, cl4, ib4, ad5, cl5, ib5, ad6, cl6, ib6, ad7, cl7, ib7, ad8, Bool.and_true, Bool.true_and]
      rw [f1, ob_s]
      simp only [t98, t99, ck_t, cle, cl0, ad1, cl1, ib1, ad2, cl2, ib2, ad3, cl3, ib3, ad4, cl4, ib4, ad5, cl5, ib5, ad6, cl6, ib6, ad7, cl7, ib7, ad8, Bool.and_true, Bool.true_and]
      rw [f2, ob_s, if_pos rfl]
      exact next M2 i2 s2
    rw [if_neg h8]
    by_cases h9 : ((M.1 9999 (Int32.toNatClampNeg (nI i))) &&& (63 : Int32)) = (9 : Int32)
    · rw [if_pos h9]
      obtain ⟨r, M1, M2, f1, f2, ⟨i2, s2⟩, s1⟩ := listOf_v hI (M.1 9999 (i + 1)) (M.1 9999 (i + 2))
      have t98 : M1.1 9998 0 = nI len := by rw [s1 9998 0 (by omega), q98]
      have t99 : ∀ j, M1.1 9999 j = M.1 9999 j := fun j => s1 9999 j (by omega)
      simp only [q98, ck_t, cle, cl0, ad1, cl1, ib1, ad2, cl2, ib2, ad3, cl3, ib3, ad4, cl4, ib4, ad5, cl5, ib5, ad6, cl6, ib6, ad7, cl7, ib7, ad8, Bool.and_true, Bool.true_and]
      rw [f1, ob_s]
      simp only [t98, t99, ck_t, cle, cl0, ad1, cl1, ib1, ad2, cl2, ib2, ad3, cl3, ib3, ad4, cl4, ib4, ad5, cl5, ib5, ad6, cl6, ib6, ad7, cl7, ib7, ad8, Bool.and_true, Bool.true_and]
      rw [f2, ob_s, if_pos rfl]
      exact next M2 i2 s2
    rw [if_neg h9]
    by_cases h10 : ((M.1 9999 (Int32.toNatClampNeg (nI i))) &&& (63 : Int32)) = (10 : Int32)
    · rw [if_pos h10]
      obtain ⟨r, M1, M2, f1, f2, ⟨i2, s2⟩, s1⟩ := worth_v hI (M.1 9999 (i + 1)) (M.1 9999 (i + 2))
      have t98 : M1.1 9998 0 = nI len := by rw [s1 9998 0 (by omega), q98]
      have t99 : ∀ j, M1.1 9999 j = M.1 9999 j := fun j => s1 9999 j (by omega)
      simp only [q98, ck_t, cle, cl0, ad1, cl1, ib1, ad2, cl2, ib2, ad3, cl3, ib3, ad4, cl4, ib4, ad5, cl5, ib5, ad6, cl6, ib6, ad7, cl7, ib7, ad8, Bool.and_true, Bool.true_and]
      rw [f1, ob_s]
      simp only [t98, t99, ck_t, cle, cl0, ad1, cl1, ib1, ad2, cl2, ib2, ad3, cl3, ib3, ad4, cl4, ib4, ad5, cl5, ib5, ad6, cl6, ib6, ad7, cl7, ib7, ad8, Bool.and_true, Bool.true_and]
      rw [f2, ob_s, if_pos (by rw [cmp_eq])]
      exact next M2 i2 s2
    rw [if_neg h10]
    by_cases h11 : ((M.1 9999 (Int32.toNatClampNeg (nI i))) &&& (63 : Int32)) = (11 : Int32)
    · rw [if_pos h11]
      obtain ⟨r, M1, M2, f1, f2, ⟨i2, s2⟩, s1⟩ := entry_v hI (M.1 9999 (i + 1)) (M.1 9999 (i + 2)) (M.1 9999 (i + 3)) (M.1 9999 (i + 4)) (M.1 9999 (i + 5)) (M.1 9999 (i + 6)) (M.1 9999 (i + 7))
      have t98 : M1.1 9998 0 = nI len := by rw [s1 9998 0 (by omega), q98]
      have t99 : ∀ j, M1.1 9999 j = M.1 9999 j := fun j => s1 9999 j (by omega)
      simp only [q98, ck_t, cle, cl0, ad1, cl1, ib1, ad2, cl2, ib2, ad3, cl3, ib3, ad4, cl4, ib4, ad5, cl5, ib5, ad6, cl6, ib6, ad7, cl7, ib7, ad8, Bool.and_true, Bool.true_and]
      rw [f1, ob_s]
      simp only [t98, t99, ck_t, cle, cl0, ad1, cl1, ib1, ad2, cl2, ib2, ad3, cl3, ib3, ad4, cl4, ib4, ad5, cl5, ib5, ad6, cl6, ib6, ad7, cl7, ib7, ad8, Bool.and_true, Bool.true_and]
      rw [f2, ob_s, if_pos rfl]
      exact next M2 i2 s2
    rw [if_neg h11]
    by_cases h12 : ((M.1 9999 (Int32.toNatClampNeg (nI i))) &&& (63 : Int32)) = (12 : Int32)
    · rw [if_pos h12]
      obtain ⟨r, M1, M2, f1, f2, ⟨i2, s2⟩, s1⟩ := week_v hI (M.1 9999 (i + 1)) (M.1 9999 (i + 2)) (M.1 9999 (i + 3)) (M.1 9999 (i + 4))
      have t98 : M1.1 9998 0 = nI len := by rw [s1 9998 0 (by omega), q98]
      have t99 : ∀ j, M1.1 9999 j = M.1 9999 j := fun j => s1 9999 j (by omega)
      simp only [q98, ck_t, cle, cl0, ad1, cl1, ib1, ad2, cl2, ib2, ad3, cl3, ib3, ad4, cl4, ib4, ad5, cl5, ib5, ad6, cl6, ib6, ad7, cl7, ib7, ad8, Bool.and_true, Bool.true_and]
      rw [f1, ob_s]
      simp only [t98, t99, ck_t, cle, cl0, ad1, cl1, ib1, ad2, cl2, ib2, ad3, cl3, ib3, ad4, cl4, ib4, ad5, cl5, ib5, ad6, cl6, ib6, ad7, cl7, ib7, ad8, Bool.and_true, Bool.true_and]
      rw [f2, ob_s, if_pos (by rw [cmp_eq])]
      exact next M2 i2 s2
    rw [if_neg h12]
    by_cases h13 : ((M.1 9999 (Int32.toNatClampNeg (nI i))) &&& (63 : Int32)) = (13 : Int32)
    · rw [if_pos h13]
      obtain ⟨t, ht, hy⟩ : ∃ t : Int32, t = (if M.1 9999 (i + 4) = 0 then 0 else 1) ∧ (t = 0 ∨ t = 1) := ⟨_, rfl, by by_cases q : M.1 9999 (i + 4) = 0; exact Or.inl (if_pos q); exact Or.inr (if_neg q)⟩
      obtain ⟨r, M1, M2, f1, f2, ⟨i2, s2⟩, s1⟩ := earned_v hI (M.1 9999 (i + 1)) (M.1 9999 (i + 2)) (M.1 9999 (i + 3)) t
      have t98 : M1.1 9998 0 = nI len := by rw [s1 9998 0 (by omega), q98]
      have t99 : ∀ j, M1.1 9999 j = M.1 9999 j := fun j => s1 9999 j (by omega)
      simp only [jn_s, q98, ck_t, cle, cl0, ad1, cl1, ib1, ad2, cl2, ib2, ad3, cl3, ib3, ad4, cl4, ib4, ad5, cl5, ib5, ad6, cl6, ib6, ad7, cl7, ib7, ad8, Bool.and_true, Bool.true_and]
      by_cases q : M.1 9999 (i + 4) = 0
      · rw [if_pos q] at ht
        subst ht
        rw [if_pos q, f1, ob_s]
        simp only [jn_s, t98, t99, ck_t, cle, cl0, ad1, cl1, ib1, ad2, cl2, ib2, ad3, cl3, ib3, ad4, cl4, ib4, ad5, cl5, ib5, ad6, cl6, ib6, ad7, cl7, ib7, ad8, Bool.and_true, Bool.true_and]
        rw [if_pos q, f2, ob_s, if_pos (by rw [cmp_eq])]
        exact next M2 i2 s2
      · rw [if_neg q] at ht
        subst ht
        rw [if_neg q, f1, ob_s]
        simp only [jn_s, t98, t99, ck_t, cle, cl0, ad1, cl1, ib1, ad2, cl2, ib2, ad3, cl3, ib3, ad4, cl4, ib4, ad5, cl5, ib5, ad6, cl6, ib6, ad7, cl7, ib7, ad8, Bool.and_true, Bool.true_and]
        rw [if_neg q, f2, ob_s, if_pos (by rw [cmp_eq])]
        exact next M2 i2 s2
    rw [if_neg h13]
    by_cases h14 : ((M.1 9999 (Int32.toNatClampNeg (nI i))) &&& (63 : Int32)) = (14 : Int32)
    · rw [if_pos h14]
      obtain ⟨r, M1, M2, f1, f2, ⟨i2, s2⟩, s1⟩ := number_v hI (M.1 9999 (i + 1)) (M.1 9999 (i + 2))
      have t98 : M1.1 9998 0 = nI len := by rw [s1 9998 0 (by omega), q98]
      have t99 : ∀ j, M1.1 9999 j = M.1 9999 j := fun j => s1 9999 j (by omega)
      simp only [q98, ck_t, cle, cl0, ad1, cl1, ib1, ad2, cl2, ib2, ad3, cl3, ib3, ad4, cl4, ib4, ad5, cl5, ib5, ad6, cl6, ib6, ad7, cl7, ib7, ad8, Bool.and_true, Bool.true_and]
      rw [f1, ob_s]
      simp only [t98, t99, ck_t, cle, cl0, ad1, cl1, ib1, ad2, cl2, ib2, ad3, cl3, ib3, ad4, cl4, ib4, ad5, cl5, ib5, ad6, cl6, ib6, ad7, cl7, ib7, ad8, Bool.and_true, Bool.true_and]
      rw [f2, ob_s, if_pos rfl]
      exact next M2 i2 s2
    rw [if_neg h14]
    by_cases h15 : ((M.1 9999 (Int32.toNatClampNeg (nI i))) &&& (63 : Int32)) = (15 : Int32)
    · rw [if_pos h15]
      obtain ⟨r, M1, M2, f1, f2, ⟨i2, s2⟩, s1⟩ := amiss_v hI (M.1 9999 (i + 1))
      have t98 : M1.1 9998 0 = nI len := by rw [s1 9998 0 (by omega), q98]
      have t99 : ∀ j, M1.1 9999 j = M.1 9999 j := fun j => s1 9999 j (by omega)
      simp only [q98, ck_t, cle, cl0, ad1, cl1, ib1, ad2, cl2, ib2, ad3, cl3, ib3, ad4, cl4, ib4, ad5, cl5, ib5, ad6, cl6, ib6, ad7, cl7, ib7, ad8, Bool.and_true, Bool.true_and]
      rw [f1, ob_s]
      simp only [t98, t99, ck_t, cle, cl0, ad1, cl1, ib1, ad2, cl2, ib2, ad3, cl3, ib3, ad4, cl4, ib4, ad5, cl5, ib5, ad6, cl6, ib6, ad7, cl7, ib7, ad8, Bool.and_true, Bool.true_and]
      rw [f2, ob_s, if_pos rfl]
      exact next M2 i2 s2
    rw [if_neg h15]
    by_cases h16 : ((M.1 9999 (Int32.toNatClampNeg (nI i))) &&& (63 : Int32)) = (16 : Int32)
    · rw [if_pos h16]
      obtain ⟨r, M1, M2, f1, f2, ⟨i2, s2⟩, s1⟩ := tells_v hI (M.1 9999 (i + 1)) (M.1 9999 (i + 2)) (M.1 9999 (i + 3)) (M.1 9999 (i + 4))
      have t98 : M1.1 9998 0 = nI len := by rw [s1 9998 0 (by omega), q98]
      have t99 : ∀ j, M1.1 9999 j = M.1 9999 j := fun j => s1 9999 j (by omega)
      simp only [q98, ck_t, cle, cl0, ad1, cl1, ib1, ad2, cl2, ib2, ad3, cl3, ib3, ad4, cl4, ib4, ad5, cl5, ib5, ad6, cl6, ib6, ad7, cl7, ib7, ad8, Bool.and_true, Bool.true_and]
      rw [f1, ob_s]
      simp only [t98, t99, ck_t, cle, cl0, ad1, cl1, ib1, ad2, cl2, ib2, ad3, cl3, ib3, ad4, cl4, ib4, ad5, cl5, ib5, ad6, cl6, ib6, ad7, cl7, ib7, ad8, Bool.and_true, Bool.true_and]
      rw [f2, ob_s, if_pos rfl]
      exact next M2 i2 s2
    rw [if_neg h16]
    by_cases h17 : ((M.1 9999 (Int32.toNatClampNeg (nI i))) &&& (63 : Int32)) = (17 : Int32)
    · rw [if_pos h17]
      obtain ⟨r, M1, M2, f1, f2, ⟨i2, s2⟩, s1⟩ := differs_v hI (M.1 9999 (i + 1)) (M.1 9999 (i + 2)) (M.1 9999 (i + 3))
      have t98 : M1.1 9998 0 = nI len := by rw [s1 9998 0 (by omega), q98]
      have t99 : ∀ j, M1.1 9999 j = M.1 9999 j := fun j => s1 9999 j (by omega)
      simp only [q98, ck_t, cle, cl0, ad1, cl1, ib1, ad2, cl2, ib2, ad3, cl3, ib3, ad4, cl4, ib4, ad5, cl5, ib5, ad6, cl6, ib6, ad7, cl7, ib7, ad8, Bool.and_true, Bool.true_and]
      rw [f1, ob_s]
      simp only [t98, t99, ck_t, cle, cl0, ad1, cl1, ib1, ad2, cl2, ib2, ad3, cl3, ib3, ad4, cl4, ib4, ad5, cl5, ib5, ad6, cl6, ib6, ad7, cl7, ib7, ad8, Bool.and_true, Bool.true_and]
      rw [f2, ob_s, if_pos rfl]
      exact next M2 i2 s2
    rw [if_neg h17]
    by_cases h18 : ((M.1 9999 (Int32.toNatClampNeg (nI i))) &&& (63 : Int32)) = (18 : Int32)
    · rw [if_pos h18]
      obtain ⟨r, M1, M2, f1, f2, ⟨i2, s2⟩, s1⟩ := spread_v hI (M.1 9999 (i + 1)) (M.1 9999 (i + 2)) (M.1 9999 (i + 3)) (M.1 9999 (i + 4)) (M.1 9999 (i + 5)) (M.1 9999 (i + 6))
      have t98 : M1.1 9998 0 = nI len := by rw [s1 9998 0 (by omega), q98]
      have t99 : ∀ j, M1.1 9999 j = M.1 9999 j := fun j => s1 9999 j (by omega)
      simp only [q98, ck_t, cle, cl0, ad1, cl1, ib1, ad2, cl2, ib2, ad3, cl3, ib3, ad4, cl4, ib4, ad5, cl5, ib5, ad6, cl6, ib6, ad7, cl7, ib7, ad8, Bool.and_true, Bool.true_and]
      rw [f1, ob_s]
      simp only [t98, t99, ck_t, cle, cl0, ad1, cl1, ib1, ad2, cl2, ib2, ad3, cl3, ib3, ad4, cl4, ib4, ad5, cl5, ib5, ad6, cl6, ib6, ad7, cl7, ib7, ad8, Bool.and_true, Bool.true_and]
      rw [f2, ob_s, if_pos (by rw [cmp_eq])]
      exact next M2 i2 s2
    rw [if_neg h18]
    by_cases h19 : ((M.1 9999 (Int32.toNatClampNeg (nI i))) &&& (63 : Int32)) = (19 : Int32)
    · rw [if_pos h19]
      obtain ⟨r, M1, M2, f1, f2, ⟨i2, s2⟩, s1⟩ := share_v hI (M.1 9999 (i + 1))
      have t98 : M1.1 9998 0 = nI len := by rw [s1 9998 0 (by omega), q98]
      have t99 : ∀ j, M1.1 9999 j = M.1 9999 j := fun j => s1 9999 j (by omega)
      simp only [q98, ck_t, cle, cl0, ad1, cl1, ib1, ad2, cl2, ib2, ad3, cl3, ib3, ad4, cl4, ib4, ad5, cl5, ib5, ad6, cl6, ib6, ad7, cl7, ib7, ad8, Bool.and_true, Bool.true_and]
      rw [f1, ob_s]
      simp only [t98, t99, ck_t, cle, cl0, ad1, cl1, ib1, ad2, cl2, ib2, ad3, cl3, ib3, ad4, cl4, ib4, ad5, cl5, ib5, ad6, cl6, ib6, ad7, cl7, ib7, ad8, Bool.and_true, Bool.true_and]
      rw [f2, ob_s, if_pos rfl]
      exact next M2 i2 s2
    rw [if_neg h19]
    by_cases h20 : ((M.1 9999 (Int32.toNatClampNeg (nI i))) &&& (63 : Int32)) = (20 : Int32)
    · rw [if_pos h20]
      obtain ⟨r, M1, M2, f1, f2, ⟨i2, s2⟩, s1⟩ := judge_v hI (M.1 9999 (i + 1))
      have t98 : M1.1 9998 0 = nI len := by rw [s1 9998 0 (by omega), q98]
      have t99 : ∀ j, M1.1 9999 j = M.1 9999 j := fun j => s1 9999 j (by omega)
      simp only [q98, ck_t, cle, cl0, ad1, cl1, ib1, ad2, cl2, ib2, ad3, cl3, ib3, ad4, cl4, ib4, ad5, cl5, ib5, ad6, cl6, ib6, ad7, cl7, ib7, ad8, Bool.and_true, Bool.true_and]
      rw [f1, ob_s]
      simp only [t98, t99, ck_t, cle, cl0, ad1, cl1, ib1, ad2, cl2, ib2, ad3, cl3, ib3, ad4, cl4, ib4, ad5, cl5, ib5, ad6, cl6, ib6, ad7, cl7, ib7, ad8, Bool.and_true, Bool.true_and]
      rw [f2, ob_s, if_pos (by rw [cmp_eq])]
      exact next M2 i2 s2
    rw [if_neg h20]
    by_cases h21 : ((M.1 9999 (Int32.toNatClampNeg (nI i))) &&& (63 : Int32)) = (21 : Int32)
    · rw [if_pos h21]
      obtain ⟨r, M1, M2, f1, f2, ⟨i2, s2⟩, s1⟩ := beside_v hI (M.1 9999 (i + 1)) (M.1 9999 (i + 2)) (M.1 9999 (i + 3)) (M.1 9999 (i + 4))
      have t98 : M1.1 9998 0 = nI len := by rw [s1 9998 0 (by omega), q98]
      have t99 : ∀ j, M1.1 9999 j = M.1 9999 j := fun j => s1 9999 j (by omega)
      simp only [q98, ck_t, cle, cl0, ad1, cl1, ib1, ad2, cl2, ib2, ad3, cl3, ib3, ad4, cl4, ib4, ad5, cl5, ib5, ad6, cl6, ib6, ad7, cl7, ib7, ad8, Bool.and_true, Bool.true_and]
      rw [f1, ob_s]
      simp only [t98, t99, ck_t, cle, cl0, ad1, cl1, ib1, ad2, cl2, ib2, ad3, cl3, ib3, ad4, cl4, ib4, ad5, cl5, ib5, ad6, cl6, ib6, ad7, cl7, ib7, ad8, Bool.and_true, Bool.true_and]
      rw [f2, ob_s, if_pos (by rw [cmp_eq])]
      exact next M2 i2 s2
    rw [if_neg h21]
    by_cases h22 : ((M.1 9999 (Int32.toNatClampNeg (nI i))) &&& (63 : Int32)) = (22 : Int32)
    · rw [if_pos h22]
      obtain ⟨r, M1, M2, f1, f2, ⟨i2, s2⟩, s1⟩ := lot_v hI (M.1 9999 (i + 1))
      have t98 : M1.1 9998 0 = nI len := by rw [s1 9998 0 (by omega), q98]
      have t99 : ∀ j, M1.1 9999 j = M.1 9999 j := fun j => s1 9999 j (by omega)
      simp only [q98, ck_t, cle, cl0, ad1, cl1, ib1, ad2, cl2, ib2, ad3, cl3, ib3, ad4, cl4, ib4, ad5, cl5, ib5, ad6, cl6, ib6, ad7, cl7, ib7, ad8, Bool.and_true, Bool.true_and]
      rw [f1, ob_s]
      simp only [t98, t99, ck_t, cle, cl0, ad1, cl1, ib1, ad2, cl2, ib2, ad3, cl3, ib3, ad4, cl4, ib4, ad5, cl5, ib5, ad6, cl6, ib6, ad7, cl7, ib7, ad8, Bool.and_true, Bool.true_and]
      rw [f2, ob_s, if_pos rfl]
      exact next M2 i2 s2
    rw [if_neg h22]
    by_cases h23 : ((M.1 9999 (Int32.toNatClampNeg (nI i))) &&& (63 : Int32)) = (23 : Int32)
    · rw [if_pos h23]
      obtain ⟨r, M1, M2, f1, f2, ⟨i2, s2⟩, s1⟩ := told_v hI (M.1 9999 (i + 1)) (M.1 9999 (i + 2))
      have t98 : M1.1 9998 0 = nI len := by rw [s1 9998 0 (by omega), q98]
      have t99 : ∀ j, M1.1 9999 j = M.1 9999 j := fun j => s1 9999 j (by omega)
      simp only [q98, ck_t, cle, cl0, ad1, cl1, ib1, ad2, cl2, ib2, ad3, cl3, ib3, ad4, cl4, ib4, ad5, cl5, ib5, ad6, cl6, ib6, ad7, cl7, ib7, ad8, Bool.and_true, Bool.true_and]
      rw [f1, ob_s]
      simp only [t98, t99, ck_t, cle, cl0, ad1, cl1, ib1, ad2, cl2, ib2, ad3, cl3, ib3, ad4, cl4, ib4, ad5, cl5, ib5, ad6, cl6, ib6, ad7, cl7, ib7, ad8, Bool.and_true, Bool.true_and]
      rw [f2, ob_s, if_pos rfl]
      exact next M2 i2 s2
    rw [if_neg h23]
    by_cases h24 : ((M.1 9999 (Int32.toNatClampNeg (nI i))) &&& (63 : Int32)) = (24 : Int32)
    · rw [if_pos h24]
      obtain ⟨r, M1, M2, f1, f2, ⟨i2, s2⟩, s1⟩ := is_v hI (M.1 9999 (i + 1))
      have t98 : M1.1 9998 0 = nI len := by rw [s1 9998 0 (by omega), q98]
      have t99 : ∀ j, M1.1 9999 j = M.1 9999 j := fun j => s1 9999 j (by omega)
      simp only [q98, ck_t, cle, cl0, ad1, cl1, ib1, ad2, cl2, ib2, ad3, cl3, ib3, ad4, cl4, ib4, ad5, cl5, ib5, ad6, cl6, ib6, ad7, cl7, ib7, ad8, Bool.and_true, Bool.true_and]
      rw [f1, ob_s]
      simp only [t98, t99, ck_t, cle, cl0, ad1, cl1, ib1, ad2, cl2, ib2, ad3, cl3, ib3, ad4, cl4, ib4, ad5, cl5, ib5, ad6, cl6, ib6, ad7, cl7, ib7, ad8, Bool.and_true, Bool.true_and]
      rw [f2, ob_s, if_pos rfl]
      exact next M2 i2 s2
    rw [if_neg h24]
    by_cases h25 : ((M.1 9999 (Int32.toNatClampNeg (nI i))) &&& (63 : Int32)) = (25 : Int32)
    · rw [if_pos h25]
      obtain ⟨r, M1, M2, f1, f2, ⟨i2, s2⟩, s1⟩ := owes_v hI (M.1 9999 (i + 1)) (M.1 9999 (i + 2)) (M.1 9999 (i + 3))
      have t98 : M1.1 9998 0 = nI len := by rw [s1 9998 0 (by omega), q98]
      have t99 : ∀ j, M1.1 9999 j = M.1 9999 j := fun j => s1 9999 j (by omega)
      simp only [q98, ck_t, cle, cl0, ad1, cl1, ib1, ad2, cl2, ib2, ad3, cl3, ib3, ad4, cl4, ib4, ad5, cl5, ib5, ad6, cl6, ib6, ad7, cl7, ib7, ad8, Bool.and_true, Bool.true_and]
      rw [f1, ob_s]
      simp only [t98, t99, ck_t, cle, cl0, ad1, cl1, ib1, ad2, cl2, ib2, ad3, cl3, ib3, ad4, cl4, ib4, ad5, cl5, ib5, ad6, cl6, ib6, ad7, cl7, ib7, ad8, Bool.and_true, Bool.true_and]
      rw [f2, ob_s, if_pos rfl]
      exact next M2 i2 s2
    rw [if_neg h25]
    by_cases h26 : ((M.1 9999 (Int32.toNatClampNeg (nI i))) &&& (63 : Int32)) = (26 : Int32)
    · rw [if_pos h26]
      obtain ⟨r, M1, M2, f1, f2, ⟨i2, s2⟩, s1⟩ := net_v hI (M.1 9999 (i + 1))
      have t98 : M1.1 9998 0 = nI len := by rw [s1 9998 0 (by omega), q98]
      have t99 : ∀ j, M1.1 9999 j = M.1 9999 j := fun j => s1 9999 j (by omega)
      simp only [q98, ck_t, cle, cl0, ad1, cl1, ib1, ad2, cl2, ib2, ad3, cl3, ib3, ad4, cl4, ib4, ad5, cl5, ib5, ad6, cl6, ib6, ad7, cl7, ib7, ad8, Bool.and_true, Bool.true_and]
      rw [f1, ob_s]
      simp only [t98, t99, ck_t, cle, cl0, ad1, cl1, ib1, ad2, cl2, ib2, ad3, cl3, ib3, ad4, cl4, ib4, ad5, cl5, ib5, ad6, cl6, ib6, ad7, cl7, ib7, ad8, Bool.and_true, Bool.true_and]
      rw [f2, ob_s, if_pos (by rw [cmp_eq])]
      exact next M2 i2 s2
    rw [if_neg h26]
    by_cases h27 : ((M.1 9999 (Int32.toNatClampNeg (nI i))) &&& (63 : Int32)) = (27 : Int32)
    · rw [if_pos h27]
      obtain ⟨r, M1, M2, f1, f2, ⟨i2, s2⟩, s1⟩ := payments_v hI 
      have t98 : M1.1 9998 0 = nI len := by rw [s1 9998 0 (by omega), q98]
      rw [f1, ob_s, f2, ob_s, if_pos rfl, ad8]
      exact next M2 i2 s2
    rw [if_neg h27]
    by_cases h28 : ((M.1 9999 (Int32.toNatClampNeg (nI i))) &&& (63 : Int32)) = (28 : Int32)
    · rw [if_pos h28]
      obtain ⟨r, M1, M2, f1, f2, ⟨i2, s2⟩, s1⟩ := clear_v hI 
      have t98 : M1.1 9998 0 = nI len := by rw [s1 9998 0 (by omega), q98]
      rw [f1, ob_s, f2, ob_s, if_pos rfl, ad8]
      exact next M2 i2 s2
    rw [if_neg h28]
    by_cases h29 : ((M.1 9999 (Int32.toNatClampNeg (nI i))) &&& (63 : Int32)) = (29 : Int32)
    · rw [if_pos h29]
      obtain ⟨r, M1, M2, f1, f2, ⟨i2, s2⟩, s1⟩ := fund_v hI (M.1 9999 (i + 1))
      have t98 : M1.1 9998 0 = nI len := by rw [s1 9998 0 (by omega), q98]
      have t99 : ∀ j, M1.1 9999 j = M.1 9999 j := fun j => s1 9999 j (by omega)
      simp only [q98, ck_t, cle, cl0, ad1, cl1, ib1, ad2, cl2, ib2, ad3, cl3, ib3, ad4, cl4, ib4, ad5, cl5, ib5, ad6, cl6, ib6, ad7, cl7, ib7, ad8, Bool.and_true, Bool.true_and]
      rw [f1, ob_s]
      simp only [t98, t99, ck_t, cle, cl0, ad1, cl1, ib1, ad2, cl2, ib2, ad3, cl3, ib3, ad4, cl4, ib4, ad5, cl5, ib5, ad6, cl6, ib6, ad7, cl7, ib7, ad8, Bool.and_true, Bool.true_and]
      rw [f2, ob_s, if_pos rfl]
      exact next M2 i2 s2
    rw [if_neg h29]
    by_cases h30 : ((M.1 9999 (Int32.toNatClampNeg (nI i))) &&& (63 : Int32)) = (30 : Int32)
    · rw [if_pos h30]
      obtain ⟨t, ht, hy⟩ : ∃ t : Int32, t = (if M.1 9999 (i + 2) = 0 then 0 else 1) ∧ (t = 0 ∨ t = 1) := ⟨_, rfl, by by_cases q : M.1 9999 (i + 2) = 0; exact Or.inl (if_pos q); exact Or.inr (if_neg q)⟩
      obtain ⟨r, M1, M2, f1, f2, ⟨i2, s2⟩, s1⟩ := strike_v hI (M.1 9999 (i + 1)) t hy
      have t98 : M1.1 9998 0 = nI len := by rw [s1 9998 0 (by omega), q98]
      have t99 : ∀ j, M1.1 9999 j = M.1 9999 j := fun j => s1 9999 j (by omega)
      simp only [jn_s, q98, ck_t, cle, cl0, ad1, cl1, ib1, ad2, cl2, ib2, ad3, cl3, ib3, ad4, cl4, ib4, ad5, cl5, ib5, ad6, cl6, ib6, ad7, cl7, ib7, ad8, Bool.and_true, Bool.true_and]
      by_cases q : M.1 9999 (i + 2) = 0
      · rw [if_pos q] at ht
        subst ht
        rw [if_pos q, f1, ob_s]
        simp only [jn_s, t98, t99, ck_t, cle, cl0, ad1, cl1, ib1, ad2, cl2, ib2, ad3, cl3, ib3, ad4, cl4, ib4, ad5, cl5, ib5, ad6, cl6, ib6, ad7, cl7, ib7, ad8, Bool.and_true, Bool.true_and]
        rw [if_pos q, f2, ob_s, if_pos rfl]
        exact next M2 i2 s2
      · rw [if_neg q] at ht
        subst ht
        rw [if_neg q, f1, ob_s]
        simp only [jn_s, t98, t99, ck_t, cle, cl0, ad1, cl1, ib1, ad2, cl2, ib2, ad3, cl3, ib3, ad4, cl4, ib4, ad5, cl5, ib5, ad6, cl6, ib6, ad7, cl7, ib7, ad8, Bool.and_true, Bool.true_and]
        rw [if_neg q, f2, ob_s, if_pos rfl]
        exact next M2 i2 s2
    rw [if_neg h30]
    by_cases h31 : ((M.1 9999 (Int32.toNatClampNeg (nI i))) &&& (63 : Int32)) = (31 : Int32)
    · rw [if_pos h31]
      obtain ⟨r, M1, M2, f1, f2, ⟨i2, s2⟩, s1⟩ := lasts_v hI 
      have t98 : M1.1 9998 0 = nI len := by rw [s1 9998 0 (by omega), q98]
      rw [f1, ob_s, f2, ob_s, if_pos rfl, ad8]
      exact next M2 i2 s2
    rw [if_neg h31]
    by_cases h32 : ((M.1 9999 (Int32.toNatClampNeg (nI i))) &&& (63 : Int32)) = (32 : Int32)
    · rw [if_pos h32]
      obtain ⟨r, M1, M2, f1, f2, ⟨i2, s2⟩, s1⟩ := goes_v hI 
      have t98 : M1.1 9998 0 = nI len := by rw [s1 9998 0 (by omega), q98]
      rw [f1, ob_s, f2, ob_s, if_pos rfl, ad8]
      exact next M2 i2 s2
    rw [if_neg h32]
    by_cases h33 : ((M.1 9999 (Int32.toNatClampNeg (nI i))) &&& (63 : Int32)) = (33 : Int32)
    · rw [if_pos h33]
      obtain ⟨r, M1, M2, f1, f2, ⟨i2, s2⟩, s1⟩ := look_v hI (M.1 9999 (i + 1)) (M.1 9999 (i + 2))
      have t98 : M1.1 9998 0 = nI len := by rw [s1 9998 0 (by omega), q98]
      have t99 : ∀ j, M1.1 9999 j = M.1 9999 j := fun j => s1 9999 j (by omega)
      simp only [q98, ck_t, cle, cl0, ad1, cl1, ib1, ad2, cl2, ib2, ad3, cl3, ib3, ad4, cl4, ib4, ad5, cl5, ib5, ad6, cl6, ib6, ad7, cl7, ib7, ad8, Bool.and_true, Bool.true_and]
      rw [f1, ob_s]
      simp only [t98, t99, ck_t, cle, cl0, ad1, cl1, ib1, ad2, cl2, ib2, ad3, cl3, ib3, ad4, cl4, ib4, ad5, cl5, ib5, ad6, cl6, ib6, ad7, cl7, ib7, ad8, Bool.and_true, Bool.true_and]
      rw [f2, ob_s, if_pos rfl]
      exact next M2 i2 s2
    rw [if_neg h33]
    by_cases h34 : ((M.1 9999 (Int32.toNatClampNeg (nI i))) &&& (63 : Int32)) = (34 : Int32)
    · rw [if_pos h34]
      obtain ⟨r, M1, M2, f1, f2, ⟨i2, s2⟩, s1⟩ := count_v hI (M.1 9999 (i + 1))
      have t98 : M1.1 9998 0 = nI len := by rw [s1 9998 0 (by omega), q98]
      have t99 : ∀ j, M1.1 9999 j = M.1 9999 j := fun j => s1 9999 j (by omega)
      simp only [q98, ck_t, cle, cl0, ad1, cl1, ib1, ad2, cl2, ib2, ad3, cl3, ib3, ad4, cl4, ib4, ad5, cl5, ib5, ad6, cl6, ib6, ad7, cl7, ib7, ad8, Bool.and_true, Bool.true_and]
      rw [f1, ob_s]
      simp only [t98, t99, ck_t, cle, cl0, ad1, cl1, ib1, ad2, cl2, ib2, ad3, cl3, ib3, ad4, cl4, ib4, ad5, cl5, ib5, ad6, cl6, ib6, ad7, cl7, ib7, ad8, Bool.and_true, Bool.true_and]
      rw [f2, ob_s, if_pos rfl]
      exact next M2 i2 s2
    rw [if_neg h34]
    rw [ad8]
    exact next M hI (Sc.rf _)
end
