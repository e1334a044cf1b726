def qbk_has (x1 : Int32) (M : SM) : Option (Int32 × SM) :=
  if x1 < 0 then
  (some ((0 : Int32), M)) else
  (if x1 < (M.1 238 0) then
    (if x1 < (200 : Int32) then
      (some ((1 : Int32), M)) else
      (some ((0 : Int32), M))) else
    (some ((0 : Int32), M)))
theorem mt_1 : MT 1 K_1 LN_0 := ⟨rfl, rfl, by decide +kernel⟩
theorem okm_1 : OKm 1 := ⟨⟨vE_1, okL_0, by decide +kernel⟩, by decide +kernel, by decide +kernel, by decide +kernel⟩
set_option maxRecDepth 20000 in
theorem qbk_has_ok (d : Nat) (hd : 1 ≤ d) {x1 : Int32} {M : SM} {r : Int32} {Mz : SM} (hs : qbk_has x1 M = some (r, Mz)) : Ex d 1 [.ref 238, .int x1] (gm M) (some (.int r), gm Mz) := by
  obtain ⟨d, rfl⟩ : ∃ d0, d = d0 + 1 := ⟨d - 1, by omega⟩
  refine Ex.of okm_1 (by omega) (Nat.le_of_ble_eq_true rfl) ?_
  show Rc (d + 1) 1 (0, [.ref 238, .int x1], [], gm M) _
  unfold qbk_has at hs
  by_cases h3 : x1 < 0
  · rw [if_pos h3] at hs
    refine Rc.goL mt_1 1 (f2 := (if x1 < 0 then 23 else 4, [.ref 238, .int x1], [], gm M)) (b := true) rfl rfl ?_
    rw [if_pos h3]
    refine Rc.goL mt_1 0 (f2 := (24, [.ref 238, .int x1], [.int (0 : Int32)], gm M)) (b := true) rfl rfl ?_
    obtain ⟨e1, e2⟩ := some_p hs; subst e1; subst e2
    exact Rc.ret (v := some (.int (0 : Int32))) rfl rfl
  · rw [if_neg h3] at hs
    refine Rc.goL mt_1 1 (f2 := (if x1 < 0 then 23 else 4, [.ref 238, .int x1], [], gm M)) (b := true) rfl rfl ?_
    rw [if_neg h3]
    by_cases h2 : x1 < (M.1 238 0)
    · rw [if_pos h2] at hs
      refine Rc.goL mt_1 3 (f2 := (if x1 < (M.1 238 0) then 12 else 23, [.ref 238, .int x1], [], gm M)) (b := true) rfl rfl ?_
      rw [if_pos h2]
      by_cases h1 : x1 < (200 : Int32)
      · rw [if_pos h1] at hs
        refine Rc.goL mt_1 2 (f2 := (if x1 < (200 : Int32) then 19 else 23, [.ref 238, .int x1], [], gm M)) (b := true) rfl rfl ?_
        rw [if_pos h1]
        refine Rc.goL mt_1 1 (f2 := (24, [.ref 238, .int x1], [.int (1 : Int32)], gm M)) (b := true) rfl rfl ?_
        obtain ⟨e1, e2⟩ := some_p hs; subst e1; subst e2
        exact Rc.ret (v := some (.int (1 : Int32))) rfl rfl
      · rw [if_neg h1] at hs
        refine Rc.goL mt_1 2 (f2 := (if x1 < (200 : Int32) then 19 else 23, [.ref 238, .int x1], [], gm M)) (b := true) rfl rfl ?_
        rw [if_neg h1]
        refine Rc.goL mt_1 0 (f2 := (24, [.ref 238, .int x1], [.int (0 : Int32)], gm M)) (b := true) rfl rfl ?_
        obtain ⟨e1, e2⟩ := some_p hs; subst e1; subst e2
        exact Rc.ret (v := some (.int (0 : Int32))) rfl rfl
    · rw [if_neg h2] at hs
      refine Rc.goL mt_1 3 (f2 := (if x1 < (M.1 238 0) then 12 else 23, [.ref 238, .int x1], [], gm M)) (b := true) rfl rfl ?_
      rw [if_neg h2]
      refine Rc.goL mt_1 0 (f2 := (24, [.ref 238, .int x1], [.int (0 : Int32)], gm M)) (b := true) rfl rfl ?_
      obtain ⟨e1, e2⟩ := some_p hs; subst e1; subst e2
      exact Rc.ret (v := some (.int (0 : Int32))) rfl rfl
def qfr_isWeek (x0 : Int32) (M : SM) : Option (Int32 × SM) :=
  if x0 < 0 then
  (some ((0 : Int32), M)) else
  (if x0 < (520 : Int32) then
    (some ((1 : Int32), M)) else
    (some ((0 : Int32), M)))
theorem mt_1138 : MT 1138 K_1138 LN_11 := ⟨rfl, rfl, by decide +kernel⟩
theorem okm_1138 : OKm 1138 := ⟨⟨vE_1138, okL_11, by decide +kernel⟩, by decide +kernel, by decide +kernel, by decide +kernel⟩
set_option maxRecDepth 20000 in
theorem qfr_isWeek_ok (d : Nat) (hd : 1 ≤ d) {x0 : Int32} {M : SM} {r : Int32} {Mz : SM} (hs : qfr_isWeek x0 M = some (r, Mz)) : Ex d 1138 [.int x0] (gm M) (some (.int r), gm Mz) := by
  obtain ⟨d, rfl⟩ : ∃ d0, d = d0 + 1 := ⟨d - 1, by omega⟩
  refine Ex.of okm_1138 (by omega) (Nat.le_of_ble_eq_true rfl) ?_
  show Rc (d + 1) 1138 (0, [.int x0], [], gm M) _
  unfold qfr_isWeek at hs
  by_cases h2 : x0 < 0
  · rw [if_pos h2] at hs
    refine Rc.goL mt_1138 1 (f2 := (if x0 < 0 then 15 else 4, [.int x0], [], gm M)) (b := true) rfl rfl ?_
    rw [if_pos h2]
    refine Rc.goL mt_1138 0 (f2 := (16, [.int x0], [.int (0 : Int32)], gm M)) (b := true) rfl rfl ?_
    obtain ⟨e1, e2⟩ := some_p hs; subst e1; subst e2
    exact Rc.ret (v := some (.int (0 : Int32))) rfl rfl
  · rw [if_neg h2] at hs
    refine Rc.goL mt_1138 1 (f2 := (if x0 < 0 then 15 else 4, [.int x0], [], gm M)) (b := true) rfl rfl ?_
    rw [if_neg h2]
    by_cases h1 : x0 < (520 : Int32)
    · rw [if_pos h1] at hs
      refine Rc.goL mt_1138 2 (f2 := (if x0 < (520 : Int32) then 11 else 15, [.int x0], [], gm M)) (b := true) rfl rfl ?_
      rw [if_pos h1]
      refine Rc.goL mt_1138 1 (f2 := (16, [.int x0], [.int (1 : Int32)], gm M)) (b := true) rfl rfl ?_
      obtain ⟨e1, e2⟩ := some_p hs; subst e1; subst e2
      exact Rc.ret (v := some (.int (1 : Int32))) rfl rfl
    · rw [if_neg h1] at hs
      refine Rc.goL mt_1138 2 (f2 := (if x0 < (520 : Int32) then 11 else 15, [.int x0], [], gm M)) (b := true) rfl rfl ?_
      rw [if_neg h1]
      refine Rc.goL mt_1138 0 (f2 := (16, [.int x0], [.int (0 : Int32)], gm M)) (b := true) rfl rfl ?_
      obtain ⟨e1, e2⟩ := some_p hs; subst e1; subst e2
      exact Rc.ret (v := some (.int (0 : Int32))) rfl rfl
def qbk_add (x1 : Int32) (x2 : Int32) (x3 : Int32) (x4 : Int32) (M : SM) : Option (Int32 × SM) :=
  if (M.1 238 0) < 0 then
  (some ((0 : Int32), M)) else
  (if (M.1 238 0) < (200 : Int32) then
    (ob (qfr_isWeek x2 M) (fun r1 M2 =>
      if r1 = 0 then
      (some ((0 : Int32), M2)) else
      (ck (ib 200 (M2.1 238 0) && (ib 200 (M2.1 238 0) && (ib 200 (M2.1 238 0) && (ib 520 x2 && (ib 200 (M2.1 238 0) && (ib 520 x2 && true)))))) (
        some ((1 : Int32), (wI (wI (wI (wI (wI (wI M2 239 (Int32.toNatClampNeg (M2.1 238 0)) x1) 240 (Int32.toNatClampNeg (M2.1 238 0)) x3) 241 (Int32.toNatClampNeg (M2.1 238 0)) x4) 242 (Int32.toNatClampNeg (M2.1 238 0)) (M2.1 243 (Int32.toNatClampNeg x2))) 243 (Int32.toNatClampNeg x2) (M2.1 238 0)) 238 0 ((M2.1 238 0) + (1 : Int32)))))))) else
    (some ((0 : Int32), M)))
theorem mt_2 : MT 2 K_2 LN_0 := ⟨rfl, rfl, by decide +kernel⟩
theorem okm_2 : OKm 2 := ⟨⟨vE_2, okL_0, by decide +kernel⟩, by decide +kernel, by decide +kernel, by decide +kernel⟩
set_option maxRecDepth 20000 in
theorem qbk_add_ok (d : Nat) (hd : 2 ≤ d) {x1 : Int32} {x2 : Int32} {x3 : Int32} {x4 : Int32} {M : SM} {r : Int32} {Mz : SM} (hs : qbk_add x1 x2 x3 x4 M = some (r, Mz)) : Ex d 2 [.ref 238, .int x1, .int x2, .int x3, .int x4] (gm M) (some (.int r), gm Mz) := by
  obtain ⟨d, rfl⟩ : ∃ d0, d = d0 + 1 := ⟨d - 1, by omega⟩
  refine Ex.of okm_2 (by omega) (Nat.le_of_ble_eq_true rfl) ?_
  show Rc (d + 1) 2 (0, [.ref 238, .int x1, .int x2, .int x3, .int x4], [], gm M) _
  unfold qbk_add at hs
  by_cases h7 : (M.1 238 0) < 0
  · rw [if_pos h7] at hs
    refine Rc.goL mt_2 2 (f2 := (if (M.1 238 0) < 0 then 24 else 7, [.ref 238, .int x1, .int x2, .int x3, .int x4], [], gm M)) (b := true) rfl rfl ?_
    rw [if_pos h7]
    refine Rc.goL mt_2 0 (f2 := (25, [.ref 238, .int x1, .int x2, .int x3, .int x4], [.int (0 : Int32)], gm M)) (b := true) rfl rfl ?_
    obtain ⟨e1, e2⟩ := some_p hs; subst e1; subst e2
    exact Rc.ret (v := some (.int (0 : Int32))) rfl rfl
  · rw [if_neg h7] at hs
    refine Rc.goL mt_2 2 (f2 := (if (M.1 238 0) < 0 then 24 else 7, [.ref 238, .int x1, .int x2, .int x3, .int x4], [], gm M)) (b := true) rfl rfl ?_
    rw [if_neg h7]
    by_cases h6 : (M.1 238 0) < (200 : Int32)
    · rw [if_pos h6] at hs
      refine Rc.goL mt_2 3 (f2 := (if (M.1 238 0) < (200 : Int32) then 17 else 24, [.ref 238, .int x1, .int x2, .int x3, .int x4], [], gm M)) (b := true) rfl rfl ?_
      rw [if_pos h6]
      refine Rc.goL mt_2 0 (f2 := (18, [.ref 238, .int x1, .int x2, .int x3, .int x4], [.int x2], gm M)) (b := true) rfl rfl ?_
      obtain ⟨r1, M2, he3, hs⟩ := ob_some hs
      refine Rc.callS (i := 31) (mid' := 1138) (av := [.int x2]) (rest := []) (v := some (.int r1)) (M1 := gm M2) rfl (Or.inr rfl) rfl cw_1138 rfl (Nat.le_of_ble_eq_true rfl) (qfr_isWeek_ok _ (by omega) he3) ?_
      by_cases h5 : r1 = 0
      · rw [if_pos h5] at hs
        refine Rc.goL mt_2 0 (f2 := (if r1 = 0 then 24 else 26, [.ref 238, .int x1, .int x2, .int x3, .int x4], [], gm M2)) (b := true) rfl rfl ?_
        rw [if_pos h5]
        refine Rc.goL mt_2 0 (f2 := (25, [.ref 238, .int x1, .int x2, .int x3, .int x4], [.int (0 : Int32)], gm M2)) (b := true) rfl rfl ?_
        obtain ⟨e1, e2⟩ := some_p hs; subst e1; subst e2
        exact Rc.ret (v := some (.int (0 : Int32))) rfl rfl
      · rw [if_neg h5] at hs
        refine Rc.goL mt_2 0 (f2 := (if r1 = 0 then 24 else 26, [.ref 238, .int x1, .int x2, .int x3, .int x4], [], gm M2)) (b := true) rfl rfl ?_
        rw [if_neg h5]
        obtain ⟨hb4, hs⟩ := ck_some hs
        obtain ⟨hb4_0, hb4⟩ := and_t hb4
        obtain ⟨hb4_1, hb4⟩ := and_t hb4
        obtain ⟨hb4_2, hb4⟩ := and_t hb4
        obtain ⟨hb4_3, hb4⟩ := and_t hb4
        obtain ⟨hb4_4, hb4⟩ := and_t hb4
        obtain ⟨hb4_5, hb4⟩ := and_t hb4
        refine Rc.goL mt_2 5 (f2 := (36, [.ref 238, .int x1, .int x2, .int x3, .int x4], [], gm (wI M2 239 (Int32.toNatClampNeg (M2.1 238 0)) x1))) (b := (ib 200 (M2.1 238 0) && true)) rfl (and_i hb4_0 rfl) ?_
        refine Rc.goL mt_2 5 (f2 := (46, [.ref 238, .int x1, .int x2, .int x3, .int x4], [], gm (wI (wI M2 239 (Int32.toNatClampNeg (M2.1 238 0)) x1) 240 (Int32.toNatClampNeg (M2.1 238 0)) x3))) (b := (ib 200 (M2.1 238 0) && true)) rfl (and_i hb4_1 rfl) ?_
        refine Rc.goL mt_2 5 (f2 := (57, [.ref 238, .int x1, .int x2, .int x3, .int x4], [], gm (wI (wI (wI M2 239 (Int32.toNatClampNeg (M2.1 238 0)) x1) 240 (Int32.toNatClampNeg (M2.1 238 0)) x3) 241 (Int32.toNatClampNeg (M2.1 238 0)) x4))) (b := (ib 200 (M2.1 238 0) && true)) rfl (and_i hb4_2 rfl) ?_
        refine Rc.goL mt_2 6 (f2 := (70, [.ref 238, .int x1, .int x2, .int x3, .int x4], [.int x2, .ref 243, .int (M2.1 238 0), .ref 242], gm (wI (wI (wI M2 239 (Int32.toNatClampNeg (M2.1 238 0)) x1) 240 (Int32.toNatClampNeg (M2.1 238 0)) x3) 241 (Int32.toNatClampNeg (M2.1 238 0)) x4))) (b := true) rfl rfl ?_
        refine Rc.goL mt_2 1 (f2 := (72, [.ref 238, .int x1, .int x2, .int x3, .int x4], [], gm (wI (wI (wI (wI M2 239 (Int32.toNatClampNeg (M2.1 238 0)) x1) 240 (Int32.toNatClampNeg (M2.1 238 0)) x3) 241 (Int32.toNatClampNeg (M2.1 238 0)) x4) 242 (Int32.toNatClampNeg (M2.1 238 0)) (M2.1 243 (Int32.toNatClampNeg x2))))) (b := (ib 520 x2 && (ib 200 (M2.1 238 0) && true))) rfl (and_i hb4_3 (and_i hb4_4 rfl)) ?_
        refine Rc.goL mt_2 5 (f2 := (82, [.ref 238, .int x1, .int x2, .int x3, .int x4], [], gm (wI (wI (wI (wI (wI M2 239 (Int32.toNatClampNeg (M2.1 238 0)) x1) 240 (Int32.toNatClampNeg (M2.1 238 0)) x3) 241 (Int32.toNatClampNeg (M2.1 238 0)) x4) 242 (Int32.toNatClampNeg (M2.1 238 0)) (M2.1 243 (Int32.toNatClampNeg x2))) 243 (Int32.toNatClampNeg x2) (M2.1 238 0)))) (b := (ib 520 x2 && true)) rfl (and_i hb4_5 rfl) ?_
        refine Rc.goL mt_2 5 (f2 := (92, [.ref 238, .int x1, .int x2, .int x3, .int x4], [], gm (wI (wI (wI (wI (wI (wI M2 239 (Int32.toNatClampNeg (M2.1 238 0)) x1) 240 (Int32.toNatClampNeg (M2.1 238 0)) x3) 241 (Int32.toNatClampNeg (M2.1 238 0)) x4) 242 (Int32.toNatClampNeg (M2.1 238 0)) (M2.1 243 (Int32.toNatClampNeg x2))) 243 (Int32.toNatClampNeg x2) (M2.1 238 0)) 238 0 ((M2.1 238 0) + (1 : Int32))))) (b := true) rfl rfl ?_
        refine Rc.goL mt_2 0 (f2 := (93, [.ref 238, .int x1, .int x2, .int x3, .int x4], [.int (1 : Int32)], gm (wI (wI (wI (wI (wI (wI M2 239 (Int32.toNatClampNeg (M2.1 238 0)) x1) 240 (Int32.toNatClampNeg (M2.1 238 0)) x3) 241 (Int32.toNatClampNeg (M2.1 238 0)) x4) 242 (Int32.toNatClampNeg (M2.1 238 0)) (M2.1 243 (Int32.toNatClampNeg x2))) 243 (Int32.toNatClampNeg x2) (M2.1 238 0)) 238 0 ((M2.1 238 0) + (1 : Int32))))) (b := true) rfl rfl ?_
        obtain ⟨e1, e2⟩ := some_p hs; subst e1; subst e2
        exact Rc.ret (v := some (.int (1 : Int32))) rfl rfl
    · rw [if_neg h6] at hs
      refine Rc.goL mt_2 3 (f2 := (if (M.1 238 0) < (200 : Int32) then 17 else 24, [.ref 238, .int x1, .int x2, .int x3, .int x4], [], gm M)) (b := true) rfl rfl ?_
      rw [if_neg h6]
      refine Rc.goL mt_2 0 (f2 := (25, [.ref 238, .int x1, .int x2, .int x3, .int x4], [.int (0 : Int32)], gm M)) (b := true) rfl rfl ?_
      obtain ⟨e1, e2⟩ := some_p hs; subst e1; subst e2
      exact Rc.ret (v := some (.int (0 : Int32))) rfl rfl
def qbk_dozens_L22 : Nat → Int32 → Int32 → Int32 → Int32 → SM → Option (Int32 × SM)
  | 0, _, _, _, _, _ => none
  | n + 1, x1, x3, x4, x5, M =>
    if x5 < (200 : Int32) then
    (ob (qbk_has x4 M) (fun r8 M9 =>
      if r8 = 0 then
      (some ((0 : Int32), M9)) else
      (ck (ib 200 x4 && true) (
        if (M9.1 239 (Int32.toNatClampNeg x4)) = x1 then
        (ck (ib 200 x4 && true) (
          if (M9.1 240 (Int32.toNatClampNeg x4)) = x3 then
          (ck (ib 200 x4 && true) (
            some ((M9.1 241 (Int32.toNatClampNeg x4)), M9))) else
          (ck (ib 200 x4 && true) (
            qbk_dozens_L22 n x1 x3 (M9.1 242 (Int32.toNatClampNeg x4)) (x5 + (1 : Int32)) M9)))) else
        (ck (ib 200 x4 && true) (
          qbk_dozens_L22 n x1 x3 (M9.1 242 (Int32.toNatClampNeg x4)) (x5 + (1 : Int32)) M9)))))) else
    (some ((0 : Int32), M))
def qbk_dozens (x1 : Int32) (x2 : Int32) (x3 : Int32) (M : SM) : Option (Int32 × SM) :=
  ob (qfr_isWeek x2 M) (fun r1 M2 =>
  jn (fun (x1_4 : Int32) (x3_5 : Int32) (t6 : Int32) (M7 : SM) =>
    qbk_dozens_L22 FU x1_4 x3_5 t6 (0 : Int32) M7) (fun j20 =>
  if r1 = 0 then
  (j20 x1 x3 (-1 : Int32) M2) else
  (ck (ib 520 x2 && true) (
    j20 x1 x3 (M2.1 243 (Int32.toNatClampNeg x2)) M2))))
theorem mt_3 : MT 3 K_3 LN_0 := ⟨rfl, rfl, by decide +kernel⟩
theorem okm_3 : OKm 3 := ⟨⟨vE_3, okL_0, by decide +kernel⟩, by decide +kernel, by decide +kernel, by decide +kernel⟩
set_option maxRecDepth 20000 in
theorem qbk_dozens_L22_ok (d : Nat) (hd : 2 ≤ d + 1) : ∀ (n : Nat) (x1 : Int32) (x3 : Int32) (x4 : Int32) (x5 : Int32) (M : SM) (r : Int32) (Mz : SM), qbk_dozens_L22 n x1 x3 x4 x5 M = some (r, Mz) → Rc (d + 1) 3 (22, [.ref 238, .int x1, UU, .int x3, .int x4, .int x5], [], gm M) (some (.int r), gm Mz) := by
  intro n
  induction n with
  | zero => intro x1 x3 x4 x5 M r Mz hs; cases hs
  | succ n ih =>
    intro x1 x3 x4 x5 M r Mz hs
    rw [qbk_dozens_L22] at hs
    by_cases h19 : x5 < (200 : Int32)
    · rw [if_pos h19] at hs
      refine Rc.goL mt_3 2 (f2 := (if x5 < (200 : Int32) then 30 else 84, [.ref 238, .int x1, UU, .int x3, .int x4, .int x5], [], gm M)) (b := true) rfl rfl ?_
      rw [if_pos h19]
      refine Rc.goL mt_3 1 (f2 := (33, [.ref 238, .int x1, UU, .int x3, .int x4, .int x5], [.int x4, .ref 238], gm M)) (b := true) rfl rfl ?_
      obtain ⟨r8, M9, he10, hs⟩ := ob_some hs
      refine Rc.callV (i := 35) (mid' := 1) (av := [.int x4]) (rest := []) (v := some (.int r8)) (M1 := gm M9) (a := 238) rfl rfl rfl cw_1 rfl (Nat.le_of_ble_eq_true rfl) rfl (Nat.le_of_ble_eq_true rfl) (qbk_has_ok _ (by omega) he10) ?_
      by_cases h18 : r8 = 0
      · rw [if_pos h18] at hs
        refine Rc.goL mt_3 0 (f2 := (if r8 = 0 then 84 else 39, [.ref 238, .int x1, UU, .int x3, .int x4, .int x5], [], gm M9)) (b := true) rfl rfl ?_
        rw [if_pos h18]
        refine Rc.goL mt_3 0 (f2 := (85, [.ref 238, .int x1, UU, .int x3, .int x4, .int x5], [.int (0 : Int32)], gm M9)) (b := true) rfl rfl ?_
        obtain ⟨e1, e2⟩ := some_p hs; subst e1; subst e2
        exact Rc.ret (v := some (.int (0 : Int32))) rfl rfl
      · rw [if_neg h18] at hs
        refine Rc.goL mt_3 0 (f2 := (if r8 = 0 then 84 else 39, [.ref 238, .int x1, UU, .int x3, .int x4, .int x5], [], gm M9)) (b := true) rfl rfl ?_
        rw [if_neg h18]
        obtain ⟨hb11, hs⟩ := ck_some hs
        by_cases h17 : (M9.1 239 (Int32.toNatClampNeg x4)) = x1
        · rw [if_pos h17] at hs
          refine Rc.goL mt_3 5 (f2 := (if (M9.1 239 (Int32.toNatClampNeg x4)) = x1 then 50 else 69, [.ref 238, .int x1, UU, .int x3, .int x4, .int x5], [], gm M9)) (b := (ib 200 x4 && true)) rfl hb11 ?_
          rw [if_pos h17]
          obtain ⟨hb12, hs⟩ := ck_some hs
          by_cases h15 : (M9.1 240 (Int32.toNatClampNeg x4)) = x3
          · rw [if_pos h15] at hs
            refine Rc.goL mt_3 5 (f2 := (if (M9.1 240 (Int32.toNatClampNeg x4)) = x3 then 61 else 69, [.ref 238, .int x1, UU, .int x3, .int x4, .int x5], [], gm M9)) (b := (ib 200 x4 && true)) rfl hb12 ?_
            rw [if_pos h15]
            obtain ⟨hb13, hs⟩ := ck_some hs
            refine Rc.goL mt_3 3 (f2 := (68, [.ref 238, .int x1, UU, .int x3, .int x4, .int x5], [.int (M9.1 241 (Int32.toNatClampNeg x4))], gm M9)) (b := (ib 200 x4 && true)) rfl hb13 ?_
            obtain ⟨e1, e2⟩ := some_p hs; subst e1; subst e2
            exact Rc.ret (v := some (.int (M9.1 241 (Int32.toNatClampNeg x4)))) rfl rfl
          · rw [if_neg h15] at hs
            refine Rc.goL mt_3 5 (f2 := (if (M9.1 240 (Int32.toNatClampNeg x4)) = x3 then 61 else 69, [.ref 238, .int x1, UU, .int x3, .int x4, .int x5], [], gm M9)) (b := (ib 200 x4 && true)) rfl hb12 ?_
            rw [if_neg h15]
            obtain ⟨hb14, hs⟩ := ck_some hs
            refine Rc.goL mt_3 6 (f2 := (22, [.ref 238, .int x1, UU, .int x3, .int (M9.1 242 (Int32.toNatClampNeg x4)), .int (x5 + (1 : Int32))], [], gm M9)) (b := (ib 200 x4 && true)) rfl hb14 ?_
            refine Rc.less (ls2 := [.ref 238, .int x1, UU, .int x3, .int (M9.1 242 (Int32.toNatClampNeg x4)), .int (x5 + (1 : Int32))]) (by refine ⟨Or.inr rfl, Or.inr rfl, Or.inl rfl, Or.inr rfl, Or.inr rfl, Or.inr rfl, trivial⟩) ?_
            exact ih x1 x3 (M9.1 242 (Int32.toNatClampNeg x4)) (x5 + (1 : Int32)) _ _ _ hs
        · rw [if_neg h17] at hs
          refine Rc.goL mt_3 5 (f2 := (if (M9.1 239 (Int32.toNatClampNeg x4)) = x1 then 50 else 69, [.ref 238, .int x1, UU, .int x3, .int x4, .int x5], [], gm M9)) (b := (ib 200 x4 && true)) rfl hb11 ?_
          rw [if_neg h17]
          obtain ⟨hb16, hs⟩ := ck_some hs
          refine Rc.goL mt_3 6 (f2 := (22, [.ref 238, .int x1, UU, .int x3, .int (M9.1 242 (Int32.toNatClampNeg x4)), .int (x5 + (1 : Int32))], [], gm M9)) (b := (ib 200 x4 && true)) rfl hb16 ?_
          refine Rc.less (ls2 := [.ref 238, .int x1, UU, .int x3, .int (M9.1 242 (Int32.toNatClampNeg x4)), .int (x5 + (1 : Int32))]) (by refine ⟨Or.inr rfl, Or.inr rfl, Or.inl rfl, Or.inr rfl, Or.inr rfl, Or.inr rfl, trivial⟩) ?_
          exact ih x1 x3 (M9.1 242 (Int32.toNatClampNeg x4)) (x5 + (1 : Int32)) _ _ _ hs
    · rw [if_neg h19] at hs
      refine Rc.goL mt_3 2 (f2 := (if x5 < (200 : Int32) then 30 else 84, [.ref 238, .int x1, UU, .int x3, .int x4, .int x5], [], gm M)) (b := true) rfl rfl ?_
      rw [if_neg h19]
      refine Rc.goL mt_3 0 (f2 := (85, [.ref 238, .int x1, UU, .int x3, .int x4, .int x5], [.int (0 : Int32)], gm M)) (b := true) rfl rfl ?_
      obtain ⟨e1, e2⟩ := some_p hs; subst e1; subst e2
      exact Rc.ret (v := some (.int (0 : Int32))) rfl rfl
set_option maxRecDepth 20000 in
theorem qbk_dozens_ok (d : Nat) (hd : 2 ≤ d) {x1 : Int32} {x2 : Int32} {x3 : Int32} {M : SM} {r : Int32} {Mz : SM} (hs : qbk_dozens x1 x2 x3 M = some (r, Mz)) : Ex d 3 [.ref 238, .int x1, .int x2, .int x3] (gm M) (some (.int r), gm Mz) := by
  obtain ⟨d, rfl⟩ : ∃ d0, d = d0 + 1 := ⟨d - 1, by omega⟩
  refine Ex.of okm_3 (by omega) (Nat.le_of_ble_eq_true rfl) ?_
  show Rc (d + 1) 3 (0, [.ref 238, .int x1, .int x2, .int x3, UU, UU], [], gm M) _
  unfold qbk_dozens at hs
  refine Rc.goL mt_3 0 (f2 := (1, [.ref 238, .int x1, .int x2, .int x3, UU, UU], [.int x2], gm M)) (b := true) rfl rfl ?_
  obtain ⟨r1, M2, he3, hs⟩ := ob_some hs
  refine Rc.callS (i := 31) (mid' := 1138) (av := [.int x2]) (rest := []) (v := some (.int r1)) (M1 := gm M2) rfl (Or.inr rfl) rfl cw_1138 rfl (Nat.le_of_ble_eq_true rfl) (qfr_isWeek_ok _ (by omega) he3) ?_
  refine jn_e (P := fun (j : Int32 → Int32 → Int32 → SM → Option (Int32 × SM)) => ∀ (x1_4 : Int32) (x3_5 : Int32) (t6 : Int32) (M7 : SM) (r : Int32) (Mz : SM), j x1_4 x3_5 t6 M7 = some (r, Mz) → Rc (d + 1) 3 (17, [.ref 238, .int x1_4, UU, .int x3_5, UU, UU], [.int t6], gm M7) (some (.int r), gm Mz)) hs ?_ (fun j20 Hj20 hs => ?_)
  · intro x1_4 x3_5 t6 M7 r Mz hs
    try dsimp only at hs
    refine Rc.goL mt_3 2 (f2 := (22, [.ref 238, .int x1_4, UU, .int x3_5, .int t6, .int (0 : Int32)], [], gm M7)) (b := true) rfl rfl ?_
    refine Rc.less (ls2 := [.ref 238, .int x1_4, UU, .int x3_5, .int t6, .int (0 : Int32)]) (by refine ⟨Or.inr rfl, Or.inr rfl, Or.inl rfl, Or.inr rfl, Or.inr rfl, Or.inr rfl, trivial⟩) ?_
    exact qbk_dozens_L22_ok d hd _ x1_4 x3_5 t6 (0 : Int32) _ _ _ hs
  by_cases h22 : r1 = 0
  · rw [if_pos h22] at hs
    refine Rc.goL mt_3 0 (f2 := (if r1 = 0 then 16 else 7, [.ref 238, .int x1, .int x2, .int x3, UU, UU], [], gm M2)) (b := true) rfl rfl ?_
    rw [if_pos h22]
    refine Rc.goL mt_3 0 (f2 := (17, [.ref 238, .int x1, .int x2, .int x3, UU, UU], [.int (-1 : Int32)], gm M2)) (b := true) rfl rfl ?_
    refine Rc.less (ls2 := [.ref 238, .int x1, UU, .int x3, UU, UU]) (by refine ⟨Or.inr rfl, Or.inr rfl, Or.inl rfl, Or.inr rfl, Or.inl rfl, Or.inl rfl, trivial⟩) ?_
    exact Hj20 x1 x3 (-1 : Int32) _ _ _ hs
  · rw [if_neg h22] at hs
    refine Rc.goL mt_3 0 (f2 := (if r1 = 0 then 16 else 7, [.ref 238, .int x1, .int x2, .int x3, UU, UU], [], gm M2)) (b := true) rfl rfl ?_
    rw [if_neg h22]
    obtain ⟨hb21, hs⟩ := ck_some hs
    refine Rc.goL mt_3 4 (f2 := (17, [.ref 238, .int x1, .int x2, .int x3, UU, UU], [.int (M2.1 243 (Int32.toNatClampNeg x2))], gm M2)) (b := (ib 520 x2 && true)) rfl hb21 ?_
    refine Rc.less (ls2 := [.ref 238, .int x1, UU, .int x3, UU, UU]) (by refine ⟨Or.inr rfl, Or.inr rfl, Or.inl rfl, Or.inr rfl, Or.inl rfl, Or.inl rfl, trivial⟩) ?_
    exact Hj20 x1 x3 (M2.1 243 (Int32.toNatClampNeg x2)) _ _ _ hs
def qdb_isOne (x0 : Int32) (M : SM) : Option (Int32 × SM) :=
  if x0 < 0 then
  (some ((0 : Int32), M)) else
  (if x0 < (18 : Int32) then
    (some ((1 : Int32), M)) else
    (some ((0 : Int32), M)))
theorem mt_101 : MT 101 K_101 LN_1 := ⟨rfl, rfl, by decide +kernel⟩
theorem okm_101 : OKm 101 := ⟨⟨vE_101, okL_1, by decide +kernel⟩, by decide +kernel, by decide +kernel, by decide +kernel⟩
set_option maxRecDepth 20000 in
theorem qdb_isOne_ok (d : Nat) (hd : 1 ≤ d) {x0 : Int32} {M : SM} {r : Int32} {Mz : SM} (hs : qdb_isOne x0 M = some (r, Mz)) : Ex d 101 [.int x0] (gm M) (some (.int r), gm Mz) := by
  obtain ⟨d, rfl⟩ : ∃ d0, d = d0 + 1 := ⟨d - 1, by omega⟩
  refine Ex.of okm_101 (by omega) (Nat.le_of_ble_eq_true rfl) ?_
  show Rc (d + 1) 101 (0, [.int x0], [], gm M) _
  unfold qdb_isOne at hs
  by_cases h2 : x0 < 0
  · rw [if_pos h2] at hs
    refine Rc.goL mt_101 1 (f2 := (if x0 < 0 then 14 else 4, [.int x0], [], gm M)) (b := true) rfl rfl ?_
    rw [if_pos h2]
    refine Rc.goL mt_101 0 (f2 := (15, [.int x0], [.int (0 : Int32)], gm M)) (b := true) rfl rfl ?_
    obtain ⟨e1, e2⟩ := some_p hs; subst e1; subst e2
    exact Rc.ret (v := some (.int (0 : Int32))) rfl rfl
  · rw [if_neg h2] at hs
    refine Rc.goL mt_101 1 (f2 := (if x0 < 0 then 14 else 4, [.int x0], [], gm M)) (b := true) rfl rfl ?_
    rw [if_neg h2]
    by_cases h1 : x0 < (18 : Int32)
    · rw [if_pos h1] at hs
      refine Rc.goL mt_101 2 (f2 := (if x0 < (18 : Int32) then 10 else 14, [.int x0], [], gm M)) (b := true) rfl rfl ?_
      rw [if_pos h1]
      refine Rc.goL mt_101 1 (f2 := (15, [.int x0], [.int (1 : Int32)], gm M)) (b := true) rfl rfl ?_
      obtain ⟨e1, e2⟩ := some_p hs; subst e1; subst e2
      exact Rc.ret (v := some (.int (1 : Int32))) rfl rfl
    · rw [if_neg h1] at hs
      refine Rc.goL mt_101 2 (f2 := (if x0 < (18 : Int32) then 10 else 14, [.int x0], [], gm M)) (b := true) rfl rfl ?_
      rw [if_neg h1]
      refine Rc.goL mt_101 0 (f2 := (15, [.int x0], [.int (0 : Int32)], gm M)) (b := true) rfl rfl ?_
      obtain ⟨e1, e2⟩ := some_p hs; subst e1; subst e2
      exact Rc.ret (v := some (.int (0 : Int32))) rfl rfl
def qdb_add (x1 : Int32) (x2 : Int32) (x3 : Int32) (M : SM) : Option (Unit × SM) :=
  ob (qdb_isOne x1 M) (fun r1 M2 =>
  if r1 = 0 then
  (some ((), M2)) else
  (ob (qdb_isOne x2 M2) (fun r4 M5 =>
    if r4 = 0 then
    (some ((), M5)) else
    (ck (ib 18 x1 && (ib 18 x1 && (ib 18 x2 && (ib 18 x2 && true)))) (
      some ((), (wI (wL (wL M5 274 (Int32.toNatClampNeg x1) ((M5.2 274 (Int32.toNatClampNeg x1)) - (Int32.toInt64 x3))) 274 (Int32.toNatClampNeg x2) (((wL M5 274 (Int32.toNatClampNeg x1) ((M5.2 274 (Int32.toNatClampNeg x1)) - (Int32.toInt64 x3))).2 274 (Int32.toNatClampNeg x2)) + (Int32.toInt64 x3))) 273 0 (1 : Int32))))))))
theorem mt_102 : MT 102 K_102 LN_1 := ⟨rfl, rfl, by decide +kernel⟩
theorem okm_102 : OKm 102 := ⟨⟨vE_102, okL_1, by decide +kernel⟩, by decide +kernel, by decide +kernel, by decide +kernel⟩
set_option maxRecDepth 20000 in
theorem qdb_add_ok (d : Nat) (hd : 2 ≤ d) {x1 : Int32} {x2 : Int32} {x3 : Int32} {M : SM} {r : Unit} {Mz : SM} (hs : qdb_add x1 x2 x3 M = some (r, Mz)) : Ex d 102 [.ref 273, .int x1, .int x2, .int x3] (gm M) (none, gm Mz) := by
  obtain ⟨d, rfl⟩ : ∃ d0, d = d0 + 1 := ⟨d - 1, by omega⟩
  refine Ex.of okm_102 (by omega) (Nat.le_of_ble_eq_true rfl) ?_
  show Rc (d + 1) 102 (0, [.ref 273, .int x1, .int x2, .int x3], [], gm M) _
  unfold qdb_add at hs
  refine Rc.goL mt_102 0 (f2 := (1, [.ref 273, .int x1, .int x2, .int x3], [.int x1], gm M)) (b := true) rfl rfl ?_
  obtain ⟨r1, M2, he3, hs⟩ := ob_some hs
  refine Rc.callS (i := 27) (mid' := 101) (av := [.int x1]) (rest := []) (v := some (.int r1)) (M1 := gm M2) rfl (Or.inl rfl) rfl cw_101 rfl (Nat.le_of_ble_eq_true rfl) (qdb_isOne_ok _ (by omega) he3) ?_
  by_cases h9 : r1 = 0
  · rw [if_pos h9] at hs
    refine Rc.goL mt_102 0 (f2 := (if r1 = 0 then 14 else 7, [.ref 273, .int x1, .int x2, .int x3], [], gm M2)) (b := true) rfl rfl ?_
    rw [if_pos h9]
    obtain ⟨e1, e2⟩ := some_p hs; subst e1; subst e2
    exact Rc.ret (v := none) rfl rfl
  · rw [if_neg h9] at hs
    refine Rc.goL mt_102 0 (f2 := (if r1 = 0 then 14 else 7, [.ref 273, .int x1, .int x2, .int x3], [], gm M2)) (b := true) rfl rfl ?_
    rw [if_neg h9]
    refine Rc.goL mt_102 0 (f2 := (8, [.ref 273, .int x1, .int x2, .int x3], [.int x2], gm M2)) (b := true) rfl rfl ?_
    obtain ⟨r4, M5, he6, hs⟩ := ob_some hs
    refine Rc.callS (i := 27) (mid' := 101) (av := [.int x2]) (rest := []) (v := some (.int r4)) (M1 := gm M5) rfl (Or.inl rfl) rfl cw_101 rfl (Nat.le_of_ble_eq_true rfl) (qdb_isOne_ok _ (by omega) he6) ?_
    by_cases h8 : r4 = 0
    · rw [if_pos h8] at hs
      refine Rc.goL mt_102 0 (f2 := (if r4 = 0 then 14 else 15, [.ref 273, .int x1, .int x2, .int x3], [], gm M5)) (b := true) rfl rfl ?_
      rw [if_pos h8]
      obtain ⟨e1, e2⟩ := some_p hs; subst e1; subst e2
      exact Rc.ret (v := none) rfl rfl
    · rw [if_neg h8] at hs
      refine Rc.goL mt_102 0 (f2 := (if r4 = 0 then 14 else 15, [.ref 273, .int x1, .int x2, .int x3], [], gm M5)) (b := true) rfl rfl ?_
      rw [if_neg h8]
      obtain ⟨hb7, hs⟩ := ck_some hs
      obtain ⟨hb7_0, hb7⟩ := and_t hb7
      obtain ⟨hb7_1, hb7⟩ := and_t hb7
      obtain ⟨hb7_2, hb7⟩ := and_t hb7
      obtain ⟨hb7_3, hb7⟩ := and_t hb7
      refine Rc.goL mt_102 6 (f2 := (24, [.ref 273, .int x1, .int x2, .int x3], [.long (Int32.toInt64 x3), .long (M5.2 274 (Int32.toNatClampNeg x1)), .int x1, .ref 274], gm M5)) (b := (ib 18 x1 && true)) rfl (and_i hb7_0 rfl) ?_
      refine Rc.goL mt_102 1 (f2 := (26, [.ref 273, .int x1, .int x2, .int x3], [], gm (wL M5 274 (Int32.toNatClampNeg x1) ((M5.2 274 (Int32.toNatClampNeg x1)) - (Int32.toInt64 x3))))) (b := (ib 18 x1 && true)) rfl (and_i hb7_1 rfl) ?_
      refine Rc.goL mt_102 6 (f2 := (35, [.ref 273, .int x1, .int x2, .int x3], [.long (Int32.toInt64 x3), .long ((wL M5 274 (Int32.toNatClampNeg x1) ((M5.2 274 (Int32.toNatClampNeg x1)) - (Int32.toInt64 x3))).2 274 (Int32.toNatClampNeg x2)), .int x2, .ref 274], gm (wL M5 274 (Int32.toNatClampNeg x1) ((M5.2 274 (Int32.toNatClampNeg x1)) - (Int32.toInt64 x3))))) (b := (ib 18 x2 && true)) rfl (and_i hb7_2 rfl) ?_
      refine Rc.goL mt_102 1 (f2 := (37, [.ref 273, .int x1, .int x2, .int x3], [], gm (wL (wL M5 274 (Int32.toNatClampNeg x1) ((M5.2 274 (Int32.toNatClampNeg x1)) - (Int32.toInt64 x3))) 274 (Int32.toNatClampNeg x2) (((wL M5 274 (Int32.toNatClampNeg x1) ((M5.2 274 (Int32.toNatClampNeg x1)) - (Int32.toInt64 x3))).2 274 (Int32.toNatClampNeg x2)) + (Int32.toInt64 x3))))) (b := (ib 18 x2 && true)) rfl (and_i hb7_3 rfl) ?_
      refine Rc.goL mt_102 2 (f2 := (42, [.ref 273, .int x1, .int x2, .int x3], [], gm (wI (wL (wL M5 274 (Int32.toNatClampNeg x1) ((M5.2 274 (Int32.toNatClampNeg x1)) - (Int32.toInt64 x3))) 274 (Int32.toNatClampNeg x2) (((wL M5 274 (Int32.toNatClampNeg x1) ((M5.2 274 (Int32.toNatClampNeg x1)) - (Int32.toInt64 x3))).2 274 (Int32.toNatClampNeg x2)) + (Int32.toInt64 x3))) 273 0 (1 : Int32)))) (b := true) rfl rfl ?_
      obtain ⟨e1, e2⟩ := some_p hs; subst e1; subst e2
      exact Rc.ret (v := none) rfl rfl
def qdb_balanceOf (x1 : Int32) (M : SM) : Option (Int64 × SM) :=
  ob (qdb_isOne x1 M) (fun r1 M2 =>
  if r1 = 0 then
  (some ((0 : Int64), M2)) else
  (ck (ib 18 x1 && true) (
    some ((M2.2 274 (Int32.toNatClampNeg x1)), M2))))
theorem mt_103 : MT 103 K_103 LN_1 := ⟨rfl, rfl, by decide +kernel⟩
theorem okm_103 : OKm 103 := ⟨⟨vE_103, okL_1, by decide +kernel⟩, by decide +kernel, by decide +kernel, by decide +kernel⟩
set_option maxRecDepth 20000 in
theorem qdb_balanceOf_ok (d : Nat) (hd : 2 ≤ d) {x1 : Int32} {M : SM} {r : Int64} {Mz : SM} (hs : qdb_balanceOf x1 M = some (r, Mz)) : Ex d 103 [.ref 273, .int x1] (gm M) (some (.long r), gm Mz) := by
  obtain ⟨d, rfl⟩ : ∃ d0, d = d0 + 1 := ⟨d - 1, by omega⟩
  refine Ex.of okm_103 (by omega) (Nat.le_of_ble_eq_true rfl) ?_
  show Rc (d + 1) 103 (0, [.ref 273, .int x1], [], gm M) _
  unfold qdb_balanceOf at hs
  refine Rc.goL mt_103 0 (f2 := (1, [.ref 273, .int x1], [.int x1], gm M)) (b := true) rfl rfl ?_
  obtain ⟨r1, M2, he3, hs⟩ := ob_some hs
  refine Rc.callS (i := 27) (mid' := 101) (av := [.int x1]) (rest := []) (v := some (.int r1)) (M1 := gm M2) rfl (Or.inl rfl) rfl cw_101 rfl (Nat.le_of_ble_eq_true rfl) (qdb_isOne_ok _ (by omega) he3) ?_
  by_cases h5 : r1 = 0
  · rw [if_pos h5] at hs
    refine Rc.goL mt_103 0 (f2 := (if r1 = 0 then 16 else 7, [.ref 273, .int x1], [], gm M2)) (b := true) rfl rfl ?_
    rw [if_pos h5]
    refine Rc.goL mt_103 0 (f2 := (17, [.ref 273, .int x1], [.long (0 : Int64)], gm M2)) (b := true) rfl rfl ?_
    obtain ⟨e1, e2⟩ := some_p hs; subst e1; subst e2
    exact Rc.ret (v := some (.long (0 : Int64))) rfl rfl
  · rw [if_neg h5] at hs
    refine Rc.goL mt_103 0 (f2 := (if r1 = 0 then 16 else 7, [.ref 273, .int x1], [], gm M2)) (b := true) rfl rfl ?_
    rw [if_neg h5]
    obtain ⟨hb4, hs⟩ := ck_some hs
    refine Rc.goL mt_103 4 (f2 := (17, [.ref 273, .int x1], [.long (M2.2 274 (Int32.toNatClampNeg x1))], gm M2)) (b := (ib 18 x1 && true)) rfl hb4 ?_
    obtain ⟨e1, e2⟩ := some_p hs; subst e1; subst e2
    exact Rc.ret (v := some (.long (M2.2 274 (Int32.toNatClampNeg x1)))) rfl rfl
def qdb_payAll_L11 : Nat → Int32 → SM → Option (Int32 × SM)
  | 0, _, _ => none
  | n + 1, x1, M =>
    if x1 < (18 : Int32) then
    (ck (ib 18 x1 && true) (
      qdb_payAll_L11 n (x1 + (1 : Int32)) (wL M 274 (Int32.toNatClampNeg x1) (0 : Int64)))) else
    (some ((1 : Int32), (wI M 273 0 (0 : Int32))))
def qdb_payAll (M : SM) : Option (Int32 × SM) :=
  if (M.1 273 0) = 0 then
  (some ((0 : Int32), M)) else
  (qdb_payAll_L11 FU (0 : Int32) M)
theorem mt_104 : MT 104 K_104 LN_1 := ⟨rfl, rfl, by decide +kernel⟩
theorem okm_104 : OKm 104 := ⟨⟨vE_104, okL_1, by decide +kernel⟩, by decide +kernel, by decide +kernel, by decide +kernel⟩
set_option maxRecDepth 20000 in
theorem qdb_payAll_L11_ok (d : Nat) (hd : 1 ≤ d + 1) : ∀ (n : Nat) (x1 : Int32) (M : SM) (r : Int32) (Mz : SM), qdb_payAll_L11 n x1 M = some (r, Mz) → Rc (d + 1) 104 (11, [.ref 273, .int x1], [], gm M) (some (.int r), gm Mz) := by
  intro n
  induction n with
  | zero => intro x1 M r Mz hs; cases hs
  | succ n ih =>
    intro x1 M r Mz hs
    rw [qdb_payAll_L11] at hs
    by_cases h2 : x1 < (18 : Int32)
    · rw [if_pos h2] at hs
      refine Rc.goL mt_104 2 (f2 := (if x1 < (18 : Int32) then 17 else 30, [.ref 273, .int x1], [], gm M)) (b := true) rfl rfl ?_
      rw [if_pos h2]
      obtain ⟨hb1, hs⟩ := ck_some hs
      obtain ⟨hb1_0, hb1⟩ := and_t hb1
      refine Rc.goL mt_104 4 (f2 := (24, [.ref 273, .int x1], [], gm (wL M 274 (Int32.toNatClampNeg x1) (0 : Int64)))) (b := (ib 18 x1 && true)) rfl (and_i hb1_0 rfl) ?_
      refine Rc.goL mt_104 1 (f2 := (11, [.ref 273, .int (x1 + (1 : Int32))], [], gm (wL M 274 (Int32.toNatClampNeg x1) (0 : Int64)))) (b := true) rfl rfl ?_
      refine Rc.less (ls2 := [.ref 273, .int (x1 + (1 : Int32))]) (by refine ⟨Or.inr rfl, Or.inr rfl, trivial⟩) ?_
      exact ih (x1 + (1 : Int32)) _ _ _ hs
    · rw [if_neg h2] at hs
      refine Rc.goL mt_104 2 (f2 := (if x1 < (18 : Int32) then 17 else 30, [.ref 273, .int x1], [], gm M)) (b := true) rfl rfl ?_
      rw [if_neg h2]
      refine Rc.goL mt_104 2 (f2 := (35, [.ref 273, .int x1], [], gm (wI M 273 0 (0 : Int32)))) (b := true) rfl rfl ?_
      refine Rc.goL mt_104 0 (f2 := (36, [.ref 273, .int x1], [.int (1 : Int32)], gm (wI M 273 0 (0 : Int32)))) (b := true) rfl rfl ?_
      obtain ⟨e1, e2⟩ := some_p hs; subst e1; subst e2
      exact Rc.ret (v := some (.int (1 : Int32))) rfl rfl
set_option maxRecDepth 20000 in
theorem qdb_payAll_ok (d : Nat) (hd : 1 ≤ d) {M : SM} {r : Int32} {Mz : SM} (hs : qdb_payAll M = some (r, Mz)) : Ex d 104 [.ref 273] (gm M) (some (.int r), gm Mz) := by
  obtain ⟨d, rfl⟩ : ∃ d0, d = d0 + 1 := ⟨d - 1, by omega⟩
  refine Ex.of okm_104 (by omega) (Nat.le_of_ble_eq_true rfl) ?_
  show Rc (d + 1) 104 (0, [.ref 273, UU], [], gm M) _
  unfold qdb_payAll at hs
  by_cases h3 : (M.1 273 0) = 0
  · rw [if_pos h3] at hs
    refine Rc.goL mt_104 2 (f2 := (if (M.1 273 0) = 0 then 7 else 9, [.ref 273, UU], [], gm M)) (b := true) rfl rfl ?_
    rw [if_pos h3]
    refine Rc.goL mt_104 0 (f2 := (8, [.ref 273, UU], [.int (0 : Int32)], gm M)) (b := true) rfl rfl ?_
    obtain ⟨e1, e2⟩ := some_p hs; subst e1; subst e2
    exact Rc.ret (v := some (.int (0 : Int32))) rfl rfl
  · rw [if_neg h3] at hs
    refine Rc.goL mt_104 2 (f2 := (if (M.1 273 0) = 0 then 7 else 9, [.ref 273, UU], [], gm M)) (b := true) rfl rfl ?_
    rw [if_neg h3]
    refine Rc.goL mt_104 1 (f2 := (11, [.ref 273, .int (0 : Int32)], [], gm M)) (b := true) rfl rfl ?_
    refine Rc.less (ls2 := [.ref 273, .int (0 : Int32)]) (by refine ⟨Or.inr rfl, Or.inr rfl, trivial⟩) ?_
    exact qdb_payAll_L11_ok d hd _ (0 : Int32) _ _ _ hs
def qdb_takeSet_L5 (k104 : Int32 → Int32 → SM → Option (Unit × SM)) : Nat → Int32 → Int32 → Int32 → Int32 → SM → Option (Unit × SM)
  | 0, _, _, _, _, _ => none
  | n + 1, x1, x2, x3, x4, M =>
    if x4 < x2 then
    (if x4 < (12 : Int32) then
      (if (x1 &&& (((1 : Int32) <<< (x4 &&& 31)) ^^^ (-1 : Int32))) = x1 then
        (qdb_takeSet_L5 k104 n x1 x2 x3 (x4 + (1 : Int32)) M) else
        (if (x1 &&& (((1 : Int32) <<< (x4 &&& 31)) ^^^ (-1 : Int32))) < 0 then
          (qdb_takeSet_L5 k104 n x1 x2 x3 (x4 + (1 : Int32)) M) else
          (if (x1 &&& (((1 : Int32) <<< (x4 &&& 31)) ^^^ (-1 : Int32))) < (4096 : Int32) then
            (ck (ib 4096 (x1 &&& (((1 : Int32) <<< (x4 &&& 31)) ^^^ (-1 : Int32))) && true) (
              lt (imx x3 (M.1 277 (Int32.toNatClampNeg (x1 &&& (((1 : Int32) <<< (x4 &&& 31)) ^^^ (-1 : Int32)))))) (fun (z2 : Int32) =>
              if x1 < 0 then
              (qdb_takeSet_L5 k104 n x1 x2 z2 (x4 + (1 : Int32)) M) else
              (if x1 < (4096 : Int32) then
                (ck (ib 4096 (x1 &&& (((1 : Int32) <<< (x4 &&& 31)) ^^^ (-1 : Int32))) && (ib 12 x4 && (ib 4096 x1 && true))) (
                  qdb_takeSet_L5 k104 n x1 x2 z2 (x4 + (1 : Int32)) (wL M 276 (Int32.toNatClampNeg x1) ((M.2 276 (Int32.toNatClampNeg (x1 &&& (((1 : Int32) <<< (x4 &&& 31)) ^^^ (-1 : Int32))))) + (M.2 275 (Int32.toNatClampNeg x4)))))) else
                (qdb_takeSet_L5 k104 n x1 x2 z2 (x4 + (1 : Int32)) M))))) else
            (qdb_takeSet_L5 k104 n x1 x2 x3 (x4 + (1 : Int32)) M)))) else
      (k104 x1 x3 M)) else
    (k104 x1 x3 M)
def qdb_takeSet (x1 : Int32) (x2 : Int32) (M : SM) : Option (Unit × SM) :=
  qdb_takeSet_L5 (fun y1_11 y3_12 M13 =>
  if y1_11 < 0 then
    (some ((), M13)) else
    (if y1_11 < (4096 : Int32) then
      (ck (ib 4096 y1_11 && true) (
        if (lg_cmp (M13.2 276 (Int32.toNatClampNeg y1_11)) (0 : Int64)) = 0 then
        (ck (ib 4096 y1_11 && true) (
          some ((), (wI M13 277 (Int32.toNatClampNeg y1_11) (y3_12 + (1 : Int32)))))) else
        (ck (ib 4096 y1_11 && true) (
          some ((), (wI M13 277 (Int32.toNatClampNeg y1_11) y3_12)))))) else
      (some ((), M13)))) FU x1 x2 (0 : Int32) (0 : Int32) M
theorem mt_107 : MT 107 K_107 LN_1 := ⟨rfl, rfl, by decide +kernel⟩
theorem okm_107 : OKm 107 := ⟨⟨vE_107, okL_1, by decide +kernel⟩, by decide +kernel, by decide +kernel, by decide +kernel⟩
set_option maxRecDepth 20000 in
theorem qdb_takeSet_L5_ok (d : Nat) (hd : 1 ≤ d + 1) (k104 : Int32 → Int32 → SM → Option (Unit × SM)) (hk104 : ∀ (y1 : Int32) (y3 : Int32) (M : SM) (r : Unit) (Mz : SM), k104 y1 y3 M = some (r, Mz) → Rc (d + 1) 107 (104, [.ref 273, .int y1, UU, .int y3, UU, UU], [], gm M) (none, gm Mz)) : ∀ (n : Nat) (x1 : Int32) (x2 : Int32) (x3 : Int32) (x4 : Int32) (M : SM) (r : Unit) (Mz : SM), qdb_takeSet_L5 k104 n x1 x2 x3 x4 M = some (r, Mz) → Rc (d + 1) 107 (5, [.ref 273, .int x1, .int x2, .int x3, .int x4, UU], [], gm M) (none, gm Mz) := by
  intro n
  induction n with
  | zero => intro x1 x2 x3 x4 M r Mz hs; cases hs
  | succ n ih =>
    intro x1 x2 x3 x4 M r Mz hs
    rw [qdb_takeSet_L5] at hs
    by_cases h10 : x4 < x2
    · rw [if_pos h10] at hs
      refine Rc.goL mt_107 2 (f2 := (if x4 < x2 then 11 else 104, [.ref 273, .int x1, .int x2, .int x3, .int x4, UU], [], gm M)) (b := true) rfl rfl ?_
      rw [if_pos h10]
      by_cases h9 : x4 < (12 : Int32)
      · rw [if_pos h9] at hs
        refine Rc.goL mt_107 2 (f2 := (if x4 < (12 : Int32) then 18 else 104, [.ref 273, .int x1, .int x2, .int x3, .int x4, UU], [], gm M)) (b := true) rfl rfl ?_
        rw [if_pos h9]
        refine Rc.goL mt_107 6 (f2 := (26, [.ref 273, .int x1, .int x2, .int x3, .int x4, UU], [.int (x1 &&& (((1 : Int32) <<< (x4 &&& 31)) ^^^ (-1 : Int32)))], gm M)) (b := true) rfl rfl ?_
        by_cases h8 : (x1 &&& (((1 : Int32) <<< (x4 &&& 31)) ^^^ (-1 : Int32))) = x1
        · rw [if_pos h8] at hs
          refine Rc.goL mt_107 3 (f2 := (if (x1 &&& (((1 : Int32) <<< (x4 &&& 31)) ^^^ (-1 : Int32))) = x1 then 98 else 34, [.ref 273, .int x1, .int x2, .int x3, .int x4, .int (x1 &&& (((1 : Int32) <<< (x4 &&& 31)) ^^^ (-1 : Int32)))], [], gm M)) (b := true) rfl rfl ?_
          rw [if_pos h8]
          refine Rc.goL mt_107 1 (f2 := (5, [.ref 273, .int x1, .int x2, .int x3, .int (x4 + (1 : Int32)), .int (x1 &&& (((1 : Int32) <<< (x4 &&& 31)) ^^^ (-1 : Int32)))], [], gm M)) (b := true) rfl rfl ?_
          refine Rc.less (ls2 := [.ref 273, .int x1, .int x2, .int x3, .int (x4 + (1 : Int32)), UU]) (by refine ⟨Or.inr rfl, Or.inr rfl, Or.inr rfl, Or.inr rfl, Or.inr rfl, Or.inl rfl, trivial⟩) ?_
          exact ih x1 x2 x3 (x4 + (1 : Int32)) _ _ _ hs
        · rw [if_neg h8] at hs
          refine Rc.goL mt_107 3 (f2 := (if (x1 &&& (((1 : Int32) <<< (x4 &&& 31)) ^^^ (-1 : Int32))) = x1 then 98 else 34, [.ref 273, .int x1, .int x2, .int x3, .int x4, .int (x1 &&& (((1 : Int32) <<< (x4 &&& 31)) ^^^ (-1 : Int32)))], [], gm M)) (b := true) rfl rfl ?_
          rw [if_neg h8]
          by_cases h7 : (x1 &&& (((1 : Int32) <<< (x4 &&& 31)) ^^^ (-1 : Int32))) < 0
          · rw [if_pos h7] at hs
            refine Rc.goL mt_107 1 (f2 := (if (x1 &&& (((1 : Int32) <<< (x4 &&& 31)) ^^^ (-1 : Int32))) < 0 then 98 else 39, [.ref 273, .int x1, .int x2, .int x3, .int x4, .int (x1 &&& (((1 : Int32) <<< (x4 &&& 31)) ^^^ (-1 : Int32)))], [], gm M)) (b := true) rfl rfl ?_
            rw [if_pos h7]
            refine Rc.goL mt_107 1 (f2 := (5, [.ref 273, .int x1, .int x2, .int x3, .int (x4 + (1 : Int32)), .int (x1 &&& (((1 : Int32) <<< (x4 &&& 31)) ^^^ (-1 : Int32)))], [], gm M)) (b := true) rfl rfl ?_
            refine Rc.less (ls2 := [.ref 273, .int x1, .int x2, .int x3, .int (x4 + (1 : Int32)), UU]) (by refine ⟨Or.inr rfl, Or.inr rfl, Or.inr rfl, Or.inr rfl, Or.inr rfl, Or.inl rfl, trivial⟩) ?_
            exact ih x1 x2 x3 (x4 + (1 : Int32)) _ _ _ hs
          · rw [if_neg h7] at hs
            refine Rc.goL mt_107 1 (f2 := (if (x1 &&& (((1 : Int32) <<< (x4 &&& 31)) ^^^ (-1 : Int32))) < 0 then 98 else 39, [.ref 273, .int x1, .int x2, .int x3, .int x4, .int (x1 &&& (((1 : Int32) <<< (x4 &&& 31)) ^^^ (-1 : Int32)))], [], gm M)) (b := true) rfl rfl ?_
            rw [if_neg h7]
            by_cases h6 : (x1 &&& (((1 : Int32) <<< (x4 &&& 31)) ^^^ (-1 : Int32))) < (4096 : Int32)
            · rw [if_pos h6] at hs
              refine Rc.goL mt_107 4 (f2 := (if (x1 &&& (((1 : Int32) <<< (x4 &&& 31)) ^^^ (-1 : Int32))) < (4096 : Int32) then 52 else 49, [.ref 273, .int x1, .int x2, .int x3, .int x4, .int (x1 &&& (((1 : Int32) <<< (x4 &&& 31)) ^^^ (-1 : Int32)))], [], gm M)) (b := true) rfl rfl ?_
              rw [if_pos h6]
              obtain ⟨hb1, hs⟩ := ck_some hs
              refine lt_g hs (fun z2 Hz2 hs => ?_)
              refine Rc.goL mt_107 6 (f2 := (64, [.ref 273, .int x1, .int x2, .int z2, .int x4, .int (x1 &&& (((1 : Int32) <<< (x4 &&& 31)) ^^^ (-1 : Int32)))], [], gm M)) (b := (ib 4096 (x1 &&& (((1 : Int32) <<< (x4 &&& 31)) ^^^ (-1 : Int32))) && true)) (by subst Hz2; rfl) hb1 ?_
              by_cases h5 : x1 < 0
              · rw [if_pos h5] at hs
                refine Rc.goL mt_107 1 (f2 := (if x1 < 0 then 98 else 68, [.ref 273, .int x1, .int x2, .int z2, .int x4, .int (x1 &&& (((1 : Int32) <<< (x4 &&& 31)) ^^^ (-1 : Int32)))], [], gm M)) (b := true) rfl rfl ?_
                rw [if_pos h5]
                refine Rc.goL mt_107 1 (f2 := (5, [.ref 273, .int x1, .int x2, .int z2, .int (x4 + (1 : Int32)), .int (x1 &&& (((1 : Int32) <<< (x4 &&& 31)) ^^^ (-1 : Int32)))], [], gm M)) (b := true) rfl rfl ?_
                refine Rc.less (ls2 := [.ref 273, .int x1, .int x2, .int z2, .int (x4 + (1 : Int32)), UU]) (by refine ⟨Or.inr rfl, Or.inr rfl, Or.inr rfl, Or.inr rfl, Or.inr rfl, Or.inl rfl, trivial⟩) ?_
                exact ih x1 x2 z2 (x4 + (1 : Int32)) _ _ _ hs
              · rw [if_neg h5] at hs
                refine Rc.goL mt_107 1 (f2 := (if x1 < 0 then 98 else 68, [.ref 273, .int x1, .int x2, .int z2, .int x4, .int (x1 &&& (((1 : Int32) <<< (x4 &&& 31)) ^^^ (-1 : Int32)))], [], gm M)) (b := true) rfl rfl ?_
                rw [if_neg h5]
                by_cases h4 : x1 < (4096 : Int32)
                · rw [if_pos h4] at hs
                  refine Rc.goL mt_107 4 (f2 := (if x1 < (4096 : Int32) then 77 else 98, [.ref 273, .int x1, .int x2, .int z2, .int x4, .int (x1 &&& (((1 : Int32) <<< (x4 &&& 31)) ^^^ (-1 : Int32)))], [], gm M)) (b := true) rfl rfl ?_
                  rw [if_pos h4]
                  obtain ⟨hb3, hs⟩ := ck_some hs
                  obtain ⟨hb3_0, hb3⟩ := and_t hb3
                  obtain ⟨hb3_1, hb3⟩ := and_t hb3
                  obtain ⟨hb3_2, hb3⟩ := and_t hb3
                  refine Rc.goL mt_107 6 (f2 := (89, [.ref 273, .int x1, .int x2, .int z2, .int x4, .int (x1 &&& (((1 : Int32) <<< (x4 &&& 31)) ^^^ (-1 : Int32)))], [.long (M.2 276 (Int32.toNatClampNeg (x1 &&& (((1 : Int32) <<< (x4 &&& 31)) ^^^ (-1 : Int32))))), .int x1, .ref 276], gm M)) (b := (ib 4096 (x1 &&& (((1 : Int32) <<< (x4 &&& 31)) ^^^ (-1 : Int32))) && true)) rfl (and_i hb3_0 rfl) ?_
                  refine Rc.goL mt_107 5 (f2 := (98, [.ref 273, .int x1, .int x2, .int z2, .int x4, .int (x1 &&& (((1 : Int32) <<< (x4 &&& 31)) ^^^ (-1 : Int32)))], [], gm (wL M 276 (Int32.toNatClampNeg x1) ((M.2 276 (Int32.toNatClampNeg (x1 &&& (((1 : Int32) <<< (x4 &&& 31)) ^^^ (-1 : Int32))))) + (M.2 275 (Int32.toNatClampNeg x4)))))) (b := (ib 12 x4 && (ib 4096 x1 && true))) rfl (and_i hb3_1 (and_i hb3_2 rfl)) ?_
                  refine Rc.goL mt_107 1 (f2 := (5, [.ref 273, .int x1, .int x2, .int z2, .int (x4 + (1 : Int32)), .int (x1 &&& (((1 : Int32) <<< (x4 &&& 31)) ^^^ (-1 : Int32)))], [], gm (wL M 276 (Int32.toNatClampNeg x1) ((M.2 276 (Int32.toNatClampNeg (x1 &&& (((1 : Int32) <<< (x4 &&& 31)) ^^^ (-1 : Int32))))) + (M.2 275 (Int32.toNatClampNeg x4)))))) (b := true) rfl rfl ?_
                  refine Rc.less (ls2 := [.ref 273, .int x1, .int x2, .int z2, .int (x4 + (1 : Int32)), UU]) (by refine ⟨Or.inr rfl, Or.inr rfl, Or.inr rfl, Or.inr rfl, Or.inr rfl, Or.inl rfl, trivial⟩) ?_
                  exact ih x1 x2 z2 (x4 + (1 : Int32)) _ _ _ hs
                · rw [if_neg h4] at hs
                  refine Rc.goL mt_107 4 (f2 := (if x1 < (4096 : Int32) then 77 else 98, [.ref 273, .int x1, .int x2, .int z2, .int x4, .int (x1 &&& (((1 : Int32) <<< (x4 &&& 31)) ^^^ (-1 : Int32)))], [], gm M)) (b := true) rfl rfl ?_
                  rw [if_neg h4]
                  refine Rc.goL mt_107 1 (f2 := (5, [.ref 273, .int x1, .int x2, .int z2, .int (x4 + (1 : Int32)), .int (x1 &&& (((1 : Int32) <<< (x4 &&& 31)) ^^^ (-1 : Int32)))], [], gm M)) (b := true) rfl rfl ?_
                  refine Rc.less (ls2 := [.ref 273, .int x1, .int x2, .int z2, .int (x4 + (1 : Int32)), UU]) (by refine ⟨Or.inr rfl, Or.inr rfl, Or.inr rfl, Or.inr rfl, Or.inr rfl, Or.inl rfl, trivial⟩) ?_
                  exact ih x1 x2 z2 (x4 + (1 : Int32)) _ _ _ hs
            · rw [if_neg h6] at hs
              refine Rc.goL mt_107 4 (f2 := (if (x1 &&& (((1 : Int32) <<< (x4 &&& 31)) ^^^ (-1 : Int32))) < (4096 : Int32) then 52 else 49, [.ref 273, .int x1, .int x2, .int x3, .int x4, .int (x1 &&& (((1 : Int32) <<< (x4 &&& 31)) ^^^ (-1 : Int32)))], [], gm M)) (b := true) rfl rfl ?_
              rw [if_neg h6]
              refine Rc.goL mt_107 0 (f2 := (98, [.ref 273, .int x1, .int x2, .int x3, .int x4, .int (x1 &&& (((1 : Int32) <<< (x4 &&& 31)) ^^^ (-1 : Int32)))], [], gm M)) (b := true) rfl rfl ?_
              refine Rc.goL mt_107 1 (f2 := (5, [.ref 273, .int x1, .int x2, .int x3, .int (x4 + (1 : Int32)), .int (x1 &&& (((1 : Int32) <<< (x4 &&& 31)) ^^^ (-1 : Int32)))], [], gm M)) (b := true) rfl rfl ?_
              refine Rc.less (ls2 := [.ref 273, .int x1, .int x2, .int x3, .int (x4 + (1 : Int32)), UU]) (by refine ⟨Or.inr rfl, Or.inr rfl, Or.inr rfl, Or.inr rfl, Or.inr rfl, Or.inl rfl, trivial⟩) ?_
              exact ih x1 x2 x3 (x4 + (1 : Int32)) _ _ _ hs
      · rw [if_neg h9] at hs
        refine Rc.goL mt_107 2 (f2 := (if x4 < (12 : Int32) then 18 else 104, [.ref 273, .int x1, .int x2, .int x3, .int x4, UU], [], gm M)) (b := true) rfl rfl ?_
        rw [if_neg h9]
        refine Rc.less (ls2 := [.ref 273, .int x1, UU, .int x3, UU, UU]) (by refine ⟨Or.inr rfl, Or.inr rfl, Or.inl rfl, Or.inr rfl, Or.inl rfl, Or.inl rfl, trivial⟩) ?_
        exact hk104 x1 x3 _ _ _ hs
    · rw [if_neg h10] at hs
      refine Rc.goL mt_107 2 (f2 := (if x4 < x2 then 11 else 104, [.ref 273, .int x1, .int x2, .int x3, .int x4, UU], [], gm M)) (b := true) rfl rfl ?_
      rw [if_neg h10]
      refine Rc.less (ls2 := [.ref 273, .int x1, UU, .int x3, UU, UU]) (by refine ⟨Or.inr rfl, Or.inr rfl, Or.inl rfl, Or.inr rfl, Or.inl rfl, Or.inl rfl, trivial⟩) ?_
      exact hk104 x1 x3 _ _ _ hs
set_option maxRecDepth 20000 in
theorem qdb_takeSet_ok (d : Nat) (hd : 1 ≤ d) {x1 : Int32} {x2 : Int32} {M : SM} {r : Unit} {Mz : SM} (hs : qdb_takeSet x1 x2 M = some (r, Mz)) : Ex d 107 [.ref 273, .int x1, .int x2] (gm M) (none, gm Mz) := by
  obtain ⟨d, rfl⟩ : ∃ d0, d = d0 + 1 := ⟨d - 1, by omega⟩
  refine Ex.of okm_107 (by omega) (Nat.le_of_ble_eq_true rfl) ?_
  show Rc (d + 1) 107 (0, [.ref 273, .int x1, .int x2, UU, UU, UU], [], gm M) _
  unfold qdb_takeSet at hs
  refine Rc.goL mt_107 3 (f2 := (5, [.ref 273, .int x1, .int x2, .int (0 : Int32), .int (0 : Int32), UU], [], gm M)) (b := true) rfl rfl ?_
  refine Rc.less (ls2 := [.ref 273, .int x1, .int x2, .int (0 : Int32), .int (0 : Int32), UU]) (by refine ⟨Or.inr rfl, Or.inr rfl, Or.inr rfl, Or.inr rfl, Or.inr rfl, Or.inl rfl, trivial⟩) ?_
  refine qdb_takeSet_L5_ok d hd _ (fun y1_11 y3_12 M13 r Mz hs => ?_) _ x1 x2 (0 : Int32) (0 : Int32) _ _ _ hs
  · by_cases h19 : y1_11 < 0
    · rw [if_pos h19] at hs
      refine Rc.goL mt_107 1 (f2 := (if y1_11 < 0 then 117 else 108, [.ref 273, .int y1_11, UU, .int y3_12, UU, UU], [], gm M13)) (b := true) rfl rfl ?_
      rw [if_pos h19]
      obtain ⟨e1, e2⟩ := some_p hs; subst e1; subst e2
      exact Rc.ret (v := none) rfl rfl
    · rw [if_neg h19] at hs
      refine Rc.goL mt_107 1 (f2 := (if y1_11 < 0 then 117 else 108, [.ref 273, .int y1_11, UU, .int y3_12, UU, UU], [], gm M13)) (b := true) rfl rfl ?_
      rw [if_neg h19]
      by_cases h18 : y1_11 < (4096 : Int32)
      · rw [if_pos h18] at hs
        refine Rc.goL mt_107 4 (f2 := (if y1_11 < (4096 : Int32) then 118 else 117, [.ref 273, .int y1_11, UU, .int y3_12, UU, UU], [], gm M13)) (b := true) rfl rfl ?_
        rw [if_pos h18]
        obtain ⟨hb14, hs⟩ := ck_some hs
        obtain ⟨hb14_0, hb14⟩ := and_t hb14
        refine Rc.goL mt_107 6 (f2 := (129, [.ref 273, .int y1_11, UU, .int y3_12, UU, UU], [.long (M13.2 276 (Int32.toNatClampNeg y1_11)), .int y1_11, .ref 277], gm M13)) (b := (ib 4096 y1_11 && true)) rfl (and_i hb14_0 rfl) ?_
        by_cases h17 : (lg_cmp (M13.2 276 (Int32.toNatClampNeg y1_11)) (0 : Int64)) = 0
        · rw [if_pos h17] at hs
          refine Rc.goL mt_107 2 (f2 := (if (lg_cmp (M13.2 276 (Int32.toNatClampNeg y1_11)) (0 : Int64)) = 0 then 134 else 140, [.ref 273, .int y1_11, UU, .int y3_12, UU, UU], [.int y1_11, .ref 277], gm M13)) (b := true) rfl rfl ?_
          rw [if_pos h17]
          refine Rc.goL mt_107 3 (f2 := (141, [.ref 273, .int y1_11, UU, .int y3_12, UU, UU], [.int (y3_12 + (1 : Int32)), .int y1_11, .ref 277], gm M13)) (b := true) rfl rfl ?_
          obtain ⟨hb15, hs⟩ := ck_some hs
          obtain ⟨hb15_0, hb15⟩ := and_t hb15
          refine Rc.goL mt_107 0 (f2 := (142, [.ref 273, .int y1_11, UU, .int y3_12, UU, UU], [], gm (wI M13 277 (Int32.toNatClampNeg y1_11) (y3_12 + (1 : Int32))))) (b := (ib 4096 y1_11 && true)) rfl (and_i hb15_0 rfl) ?_
          obtain ⟨e1, e2⟩ := some_p hs; subst e1; subst e2
          exact Rc.ret (v := none) rfl rfl
        · rw [if_neg h17] at hs
          refine Rc.goL mt_107 2 (f2 := (if (lg_cmp (M13.2 276 (Int32.toNatClampNeg y1_11)) (0 : Int64)) = 0 then 134 else 140, [.ref 273, .int y1_11, UU, .int y3_12, UU, UU], [.int y1_11, .ref 277], gm M13)) (b := true) rfl rfl ?_
          rw [if_neg h17]
          refine Rc.goL mt_107 0 (f2 := (141, [.ref 273, .int y1_11, UU, .int y3_12, UU, UU], [.int y3_12, .int y1_11, .ref 277], gm M13)) (b := true) rfl rfl ?_
          obtain ⟨hb16, hs⟩ := ck_some hs
          obtain ⟨hb16_0, hb16⟩ := and_t hb16
          refine Rc.goL mt_107 0 (f2 := (142, [.ref 273, .int y1_11, UU, .int y3_12, UU, UU], [], gm (wI M13 277 (Int32.toNatClampNeg y1_11) y3_12))) (b := (ib 4096 y1_11 && true)) rfl (and_i hb16_0 rfl) ?_
          obtain ⟨e1, e2⟩ := some_p hs; subst e1; subst e2
          exact Rc.ret (v := none) rfl rfl
      · rw [if_neg h18] at hs
        refine Rc.goL mt_107 4 (f2 := (if y1_11 < (4096 : Int32) then 118 else 117, [.ref 273, .int y1_11, UU, .int y3_12, UU, UU], [], gm M13)) (b := true) rfl rfl ?_
        rw [if_neg h18]
        obtain ⟨e1, e2⟩ := some_p hs; subst e1; subst e2
        exact Rc.ret (v := none) rfl rfl
def qdb_mostGroups_L34 : Nat → Int32 → Int32 → Int32 → SM → Option (Int32 × SM)
  | 0, _, _, _, _ => none
  | n + 1, x1, x2, x3, M =>
    if x2 < x3 then
    (ck (ib 4096 x2 && true) (
      some ((M.1 277 (Int32.toNatClampNeg x2)), M))) else
    (ob (qdb_takeSet x3 x1 M) (fun _ M3 =>
      qdb_mostGroups_L34 n x1 x2 (x3 + (1 : Int32)) M3))
def qdb_mostGroups (x1 : Int32) (M : SM) : Option (Int32 × SM) :=
  if x1 < 0 then
  (some ((0 : Int32), M)) else
  (if (12 : Int32) < x1 then
    (some ((0 : Int32), M)) else
    (ck (ib 4096 (0 : Int32) && (ib 4096 (0 : Int32) && true)) (
      qdb_mostGroups_L34 FU x1 (((1 : Int32) <<< (x1 &&& 31)) - (1 : Int32)) (1 : Int32) (wI (wL M 276 (Int32.toNatClampNeg (0 : Int32)) (0 : Int64)) 277 (Int32.toNatClampNeg (0 : Int32)) (0 : Int32)))))
theorem mt_106 : MT 106 K_106 LN_1 := ⟨rfl, rfl, by decide +kernel⟩
theorem okm_106 : OKm 106 := ⟨⟨vE_106, okL_1, by decide +kernel⟩, by decide +kernel, by decide +kernel, by decide +kernel⟩
set_option maxRecDepth 20000 in
theorem qdb_mostGroups_L34_ok (d : Nat) (hd : 2 ≤ d + 1) : ∀ (n : Nat) (x1 : Int32) (x2 : Int32) (x3 : Int32) (M : SM) (r : Int32) (Mz : SM), qdb_mostGroups_L34 n x1 x2 x3 M = some (r, Mz) → Rc (d + 1) 106 (34, [.ref 273, .int x1, .int x2, .int x3], [], gm M) (some (.int r), gm Mz) := by
  intro n
  induction n with
  | zero => intro x1 x2 x3 M r Mz hs; cases hs
  | succ n ih =>
    intro x1 x2 x3 M r Mz hs
    rw [qdb_mostGroups_L34] at hs
    by_cases h6 : x2 < x3
    · rw [if_pos h6] at hs
      refine Rc.goL mt_106 2 (f2 := (if x2 < x3 then 51 else 39, [.ref 273, .int x1, .int x2, .int x3], [], gm M)) (b := true) rfl rfl ?_
      rw [if_pos h6]
      obtain ⟨hb2, hs⟩ := ck_some hs
      refine Rc.goL mt_106 3 (f2 := (57, [.ref 273, .int x1, .int x2, .int x3], [.int (M.1 277 (Int32.toNatClampNeg x2))], gm M)) (b := (ib 4096 x2 && true)) rfl hb2 ?_
      obtain ⟨e1, e2⟩ := some_p hs; subst e1; subst e2
      exact Rc.ret (v := some (.int (M.1 277 (Int32.toNatClampNeg x2)))) rfl rfl
    · rw [if_neg h6] at hs
      refine Rc.goL mt_106 2 (f2 := (if x2 < x3 then 51 else 39, [.ref 273, .int x1, .int x2, .int x3], [], gm M)) (b := true) rfl rfl ?_
      rw [if_neg h6]
      refine Rc.goL mt_106 2 (f2 := (42, [.ref 273, .int x1, .int x2, .int x3], [.int x1, .int x3, .ref 273], gm M)) (b := true) rfl rfl ?_
      obtain ⟨u5, M3, he4, hs⟩ := ob_some hs
      refine Rc.callV (i := 39) (mid' := 107) (av := [.int x3, .int x1]) (rest := []) (v := none) (M1 := gm M3) (a := 273) rfl rfl rfl cw_107 rfl (Nat.le_of_ble_eq_true rfl) rfl (Nat.le_of_ble_eq_true rfl) (qdb_takeSet_ok _ (by omega) he4) ?_
      refine Rc.goL mt_106 1 (f2 := (34, [.ref 273, .int x1, .int x2, .int (x3 + (1 : Int32))], [], gm M3)) (b := true) rfl rfl ?_
      refine Rc.less (ls2 := [.ref 273, .int x1, .int x2, .int (x3 + (1 : Int32))]) (by refine ⟨Or.inr rfl, Or.inr rfl, Or.inr rfl, Or.inr rfl, trivial⟩) ?_
      exact ih x1 x2 (x3 + (1 : Int32)) _ _ _ hs
set_option maxRecDepth 20000 in
theorem qdb_mostGroups_ok (d : Nat) (hd : 2 ≤ d) {x1 : Int32} {M : SM} {r : Int32} {Mz : SM} (hs : qdb_mostGroups x1 M = some (r, Mz)) : Ex d 106 [.ref 273, .int x1] (gm M) (some (.int r), gm Mz) := by
  obtain ⟨d, rfl⟩ : ∃ d0, d = d0 + 1 := ⟨d - 1, by omega⟩
  refine Ex.of okm_106 (by omega) (Nat.le_of_ble_eq_true rfl) ?_
  show Rc (d + 1) 106 (0, [.ref 273, .int x1, UU, UU], [], gm M) _
  unfold qdb_mostGroups at hs
  by_cases h8 : x1 < 0
  · rw [if_pos h8] at hs
    refine Rc.goL mt_106 1 (f2 := (if x1 < 0 then 10 else 4, [.ref 273, .int x1, UU, UU], [], gm M)) (b := true) rfl rfl ?_
    rw [if_pos h8]
    refine Rc.goL mt_106 0 (f2 := (11, [.ref 273, .int x1, UU, UU], [.int (0 : Int32)], gm M)) (b := true) rfl rfl ?_
    obtain ⟨e1, e2⟩ := some_p hs; subst e1; subst e2
    exact Rc.ret (v := some (.int (0 : Int32))) rfl rfl
  · rw [if_neg h8] at hs
    refine Rc.goL mt_106 1 (f2 := (if x1 < 0 then 10 else 4, [.ref 273, .int x1, UU, UU], [], gm M)) (b := true) rfl rfl ?_
    rw [if_neg h8]
    by_cases h7 : (12 : Int32) < x1
    · rw [if_pos h7] at hs
      refine Rc.goL mt_106 2 (f2 := (if (12 : Int32) < x1 then 10 else 12, [.ref 273, .int x1, UU, UU], [], gm M)) (b := true) rfl rfl ?_
      rw [if_pos h7]
      refine Rc.goL mt_106 0 (f2 := (11, [.ref 273, .int x1, UU, UU], [.int (0 : Int32)], gm M)) (b := true) rfl rfl ?_
      obtain ⟨e1, e2⟩ := some_p hs; subst e1; subst e2
      exact Rc.ret (v := some (.int (0 : Int32))) rfl rfl
    · rw [if_neg h7] at hs
      refine Rc.goL mt_106 2 (f2 := (if (12 : Int32) < x1 then 10 else 12, [.ref 273, .int x1, UU, UU], [], gm M)) (b := true) rfl rfl ?_
      rw [if_neg h7]
      obtain ⟨hb1, hs⟩ := ck_some hs
      obtain ⟨hb1_0, hb1⟩ := and_t hb1
      obtain ⟨hb1_1, hb1⟩ := and_t hb1
      refine Rc.goL mt_106 6 (f2 := (19, [.ref 273, .int x1, .int (((1 : Int32) <<< (x1 &&& 31)) - (1 : Int32)), UU], [.ref 273], gm M)) (b := true) rfl rfl ?_
      refine Rc.goL mt_106 3 (f2 := (25, [.ref 273, .int x1, .int (((1 : Int32) <<< (x1 &&& 31)) - (1 : Int32)), UU], [], gm (wL M 276 (Int32.toNatClampNeg (0 : Int32)) (0 : Int64)))) (b := (ib 4096 (0 : Int32) && true)) rfl (and_i hb1_0 rfl) ?_
      refine Rc.goL mt_106 4 (f2 := (32, [.ref 273, .int x1, .int (((1 : Int32) <<< (x1 &&& 31)) - (1 : Int32)), UU], [], gm (wI (wL M 276 (Int32.toNatClampNeg (0 : Int32)) (0 : Int64)) 277 (Int32.toNatClampNeg (0 : Int32)) (0 : Int32)))) (b := (ib 4096 (0 : Int32) && true)) rfl (and_i hb1_1 rfl) ?_
      refine Rc.goL mt_106 1 (f2 := (34, [.ref 273, .int x1, .int (((1 : Int32) <<< (x1 &&& 31)) - (1 : Int32)), .int (1 : Int32)], [], gm (wI (wL M 276 (Int32.toNatClampNeg (0 : Int32)) (0 : Int64)) 277 (Int32.toNatClampNeg (0 : Int32)) (0 : Int32)))) (b := true) rfl rfl ?_
      refine Rc.less (ls2 := [.ref 273, .int x1, .int (((1 : Int32) <<< (x1 &&& 31)) - (1 : Int32)), .int (1 : Int32)]) (by refine ⟨Or.inr rfl, Or.inr rfl, Or.inr rfl, Or.inr rfl, trivial⟩) ?_
      exact qdb_mostGroups_L34_ok d hd _ x1 (((1 : Int32) <<< (x1 &&& 31)) - (1 : Int32)) (1 : Int32) _ _ _ hs
def qdb_fewestPayments_L4 (k53 : Int32 → SM → Option (Int32 × SM)) : Nat → Int32 → Int32 → SM → Option (Int32 × SM)
  | 0, _, _, _ => none
  | n + 1, x1, x2, M =>
    if x2 < (18 : Int32) then
    (ck (ib 18 x2 && true) (
      if (lg_cmp (M.2 274 (Int32.toNatClampNeg x2)) (0 : Int64)) = 0 then
      (qdb_fewestPayments_L4 k53 n x1 (x2 + (1 : Int32)) M) else
      (if x1 < (12 : Int32) then
        (ck (ib 18 x2 && (ib 12 x1 && true)) (
          qdb_fewestPayments_L4 k53 n (x1 + (1 : Int32)) (x2 + (1 : Int32)) (wL M 275 (Int32.toNatClampNeg x1) (M.2 274 (Int32.toNatClampNeg x2))))) else
        (some ((-1 : Int32), M))))) else
    (k53 x1 M)
def qdb_fewestPayments (M : SM) : Option (Int32 × SM) :=
  qdb_fewestPayments_L4 (fun y1_6 M7 =>
  ob (qdb_mostGroups y1_6 M7) (fun r8 M9 =>
    some ((y1_6 - r8), M9))) FU (0 : Int32) (0 : Int32) M
theorem mt_105 : MT 105 K_105 LN_1 := ⟨rfl, rfl, by decide +kernel⟩
theorem okm_105 : OKm 105 := ⟨⟨vE_105, okL_1, by decide +kernel⟩, by decide +kernel, by decide +kernel, by decide +kernel⟩
set_option maxRecDepth 20000 in
theorem qdb_fewestPayments_L4_ok (d : Nat) (hd : 3 ≤ d + 1) (k53 : Int32 → SM → Option (Int32 × SM)) (hk53 : ∀ (y1 : Int32) (M : SM) (r : Int32) (Mz : SM), k53 y1 M = some (r, Mz) → Rc (d + 1) 105 (53, [.ref 273, .int y1, UU], [], gm M) (some (.int r), gm Mz)) : ∀ (n : Nat) (x1 : Int32) (x2 : Int32) (M : SM) (r : Int32) (Mz : SM), qdb_fewestPayments_L4 k53 n x1 x2 M = some (r, Mz) → Rc (d + 1) 105 (4, [.ref 273, .int x1, .int x2], [], gm M) (some (.int r), gm Mz) := by
  intro n
  induction n with
  | zero => intro x1 x2 M r Mz hs; cases hs
  | succ n ih =>
    intro x1 x2 M r Mz hs
    rw [qdb_fewestPayments_L4] at hs
    by_cases h5 : x2 < (18 : Int32)
    · rw [if_pos h5] at hs
      refine Rc.goL mt_105 2 (f2 := (if x2 < (18 : Int32) then 10 else 53, [.ref 273, .int x1, .int x2], [], gm M)) (b := true) rfl rfl ?_
      rw [if_pos h5]
      obtain ⟨hb1, hs⟩ := ck_some hs
      by_cases h4 : (lg_cmp (M.2 274 (Int32.toNatClampNeg x2)) (0 : Int64)) = 0
      · rw [if_pos h4] at hs
        refine Rc.goL mt_105 6 (f2 := (if (lg_cmp (M.2 274 (Int32.toNatClampNeg x2)) (0 : Int64)) = 0 then 21 else 24, [.ref 273, .int x1, .int x2], [], gm M)) (b := (ib 18 x2 && true)) rfl hb1 ?_
        rw [if_pos h4]
        refine Rc.goL mt_105 0 (f2 := (47, [.ref 273, .int x1, .int x2], [], gm M)) (b := true) rfl rfl ?_
        refine Rc.goL mt_105 1 (f2 := (4, [.ref 273, .int x1, .int (x2 + (1 : Int32))], [], gm M)) (b := true) rfl rfl ?_
        refine Rc.less (ls2 := [.ref 273, .int x1, .int (x2 + (1 : Int32))]) (by refine ⟨Or.inr rfl, Or.inr rfl, Or.inr rfl, trivial⟩) ?_
        exact ih x1 (x2 + (1 : Int32)) _ _ _ hs
      · rw [if_neg h4] at hs
        refine Rc.goL mt_105 6 (f2 := (if (lg_cmp (M.2 274 (Int32.toNatClampNeg x2)) (0 : Int64)) = 0 then 21 else 24, [.ref 273, .int x1, .int x2], [], gm M)) (b := (ib 18 x2 && true)) rfl hb1 ?_
        rw [if_neg h4]
        by_cases h3 : x1 < (12 : Int32)
        · rw [if_pos h3] at hs
          refine Rc.goL mt_105 2 (f2 := (if x1 < (12 : Int32) then 32 else 30, [.ref 273, .int x1, .int x2], [], gm M)) (b := true) rfl rfl ?_
          rw [if_pos h3]
          obtain ⟨hb2, hs⟩ := ck_some hs
          obtain ⟨hb2_0, hb2⟩ := and_t hb2
          obtain ⟨hb2_1, hb2⟩ := and_t hb2
          refine Rc.goL mt_105 6 (f2 := (43, [.ref 273, .int x1, .int x2], [.long (M.2 274 (Int32.toNatClampNeg x2)), .int x1, .ref 275], gm M)) (b := (ib 18 x2 && true)) rfl (and_i hb2_0 rfl) ?_
          refine Rc.goL mt_105 0 (f2 := (44, [.ref 273, .int x1, .int x2], [], gm (wL M 275 (Int32.toNatClampNeg x1) (M.2 274 (Int32.toNatClampNeg x2))))) (b := (ib 12 x1 && true)) rfl (and_i hb2_1 rfl) ?_
          refine Rc.goL mt_105 0 (f2 := (47, [.ref 273, .int (x1 + (1 : Int32)), .int x2], [], gm (wL M 275 (Int32.toNatClampNeg x1) (M.2 274 (Int32.toNatClampNeg x2))))) (b := true) rfl rfl ?_
          refine Rc.goL mt_105 1 (f2 := (4, [.ref 273, .int (x1 + (1 : Int32)), .int (x2 + (1 : Int32))], [], gm (wL M 275 (Int32.toNatClampNeg x1) (M.2 274 (Int32.toNatClampNeg x2))))) (b := true) rfl rfl ?_
          refine Rc.less (ls2 := [.ref 273, .int (x1 + (1 : Int32)), .int (x2 + (1 : Int32))]) (by refine ⟨Or.inr rfl, Or.inr rfl, Or.inr rfl, trivial⟩) ?_
          exact ih (x1 + (1 : Int32)) (x2 + (1 : Int32)) _ _ _ hs
        · rw [if_neg h3] at hs
          refine Rc.goL mt_105 2 (f2 := (if x1 < (12 : Int32) then 32 else 30, [.ref 273, .int x1, .int x2], [], gm M)) (b := true) rfl rfl ?_
          rw [if_neg h3]
          refine Rc.goL mt_105 0 (f2 := (31, [.ref 273, .int x1, .int x2], [.int (-1 : Int32)], gm M)) (b := true) rfl rfl ?_
          obtain ⟨e1, e2⟩ := some_p hs; subst e1; subst e2
          exact Rc.ret (v := some (.int (-1 : Int32))) rfl rfl
    · rw [if_neg h5] at hs
      refine Rc.goL mt_105 2 (f2 := (if x2 < (18 : Int32) then 10 else 53, [.ref 273, .int x1, .int x2], [], gm M)) (b := true) rfl rfl ?_
      rw [if_neg h5]
      refine Rc.less (ls2 := [.ref 273, .int x1, UU]) (by refine ⟨Or.inr rfl, Or.inr rfl, Or.inl rfl, trivial⟩) ?_
      exact hk53 x1 _ _ _ hs
set_option maxRecDepth 20000 in
theorem qdb_fewestPayments_ok (d : Nat) (hd : 3 ≤ d) {M : SM} {r : Int32} {Mz : SM} (hs : qdb_fewestPayments M = some (r, Mz)) : Ex d 105 [.ref 273] (gm M) (some (.int r), gm Mz) := by
  obtain ⟨d, rfl⟩ : ∃ d0, d = d0 + 1 := ⟨d - 1, by omega⟩
  refine Ex.of okm_105 (by omega) (Nat.le_of_ble_eq_true rfl) ?_
  show Rc (d + 1) 105 (0, [.ref 273, UU, UU], [], gm M) _
  unfold qdb_fewestPayments at hs
  refine Rc.goL mt_105 3 (f2 := (4, [.ref 273, .int (0 : Int32), .int (0 : Int32)], [], gm M)) (b := true) rfl rfl ?_
  refine Rc.less (ls2 := [.ref 273, .int (0 : Int32), .int (0 : Int32)]) (by refine ⟨Or.inr rfl, Or.inr rfl, Or.inr rfl, trivial⟩) ?_
  refine qdb_fewestPayments_L4_ok d hd _ (fun y1_6 M7 r Mz hs => ?_) _ (0 : Int32) (0 : Int32) _ _ _ hs
  · refine Rc.goL mt_105 2 (f2 := (56, [.ref 273, .int y1_6, UU], [.int y1_6, .ref 273, .int y1_6], gm M7)) (b := true) rfl rfl ?_
    obtain ⟨r8, M9, he10, hs⟩ := ob_some hs
    refine Rc.callV (i := 35) (mid' := 106) (av := [.int y1_6]) (rest := [.int y1_6]) (v := some (.int r8)) (M1 := gm M9) (a := 273) rfl rfl rfl cw_106 rfl (Nat.le_of_ble_eq_true rfl) rfl (Nat.le_of_ble_eq_true rfl) (qdb_mostGroups_ok _ (by omega) he10) ?_
    refine Rc.goL mt_105 0 (f2 := (60, [.ref 273, .int y1_6, UU], [.int (y1_6 - r8)], gm M9)) (b := true) rfl rfl ?_
    obtain ⟨e1, e2⟩ := some_p hs; subst e1; subst e2
    exact Rc.ret (v := some (.int (y1_6 - r8))) rfl rfl
def qen_has (x1 : Int32) (M : SM) : Option (Int32 × SM) :=
  if x1 < 0 then
  (some ((0 : Int32), M)) else
  (if x1 < (M.1 210 0) then
    (if x1 < (300 : Int32) then
      (some ((1 : Int32), M)) else
      (some ((0 : Int32), M))) else
    (some ((0 : Int32), M)))
theorem mt_201 : MT 201 K_201 LN_2 := ⟨rfl, rfl, by decide +kernel⟩
theorem okm_201 : OKm 201 := ⟨⟨vE_201, okL_2, by decide +kernel⟩, by decide +kernel, by decide +kernel, by decide +kernel⟩
set_option maxRecDepth 20000 in
theorem qen_has_ok (d : Nat) (hd : 1 ≤ d) {x1 : Int32} {M : SM} {r : Int32} {Mz : SM} (hs : qen_has x1 M = some (r, Mz)) : Ex d 201 [.ref 210, .int x1] (gm M) (some (.int r), gm Mz) := by
  obtain ⟨d, rfl⟩ : ∃ d0, d = d0 + 1 := ⟨d - 1, by omega⟩
  refine Ex.of okm_201 (by omega) (Nat.le_of_ble_eq_true rfl) ?_
  show Rc (d + 1) 201 (0, [.ref 210, .int x1], [], gm M) _
  unfold qen_has at hs
  by_cases h3 : x1 < 0
  · rw [if_pos h3] at hs
    refine Rc.goL mt_201 1 (f2 := (if x1 < 0 then 23 else 4, [.ref 210, .int x1], [], gm M)) (b := true) rfl rfl ?_
    rw [if_pos h3]
    refine Rc.goL mt_201 0 (f2 := (24, [.ref 210, .int x1], [.int (0 : Int32)], gm M)) (b := true) rfl rfl ?_
    obtain ⟨e1, e2⟩ := some_p hs; subst e1; subst e2
    exact Rc.ret (v := some (.int (0 : Int32))) rfl rfl
  · rw [if_neg h3] at hs
    refine Rc.goL mt_201 1 (f2 := (if x1 < 0 then 23 else 4, [.ref 210, .int x1], [], gm M)) (b := true) rfl rfl ?_
    rw [if_neg h3]
    by_cases h2 : x1 < (M.1 210 0)
    · rw [if_pos h2] at hs
      refine Rc.goL mt_201 3 (f2 := (if x1 < (M.1 210 0) then 12 else 23, [.ref 210, .int x1], [], gm M)) (b := true) rfl rfl ?_
      rw [if_pos h2]
      by_cases h1 : x1 < (300 : Int32)
      · rw [if_pos h1] at hs
        refine Rc.goL mt_201 2 (f2 := (if x1 < (300 : Int32) then 19 else 23, [.ref 210, .int x1], [], gm M)) (b := true) rfl rfl ?_
        rw [if_pos h1]
        refine Rc.goL mt_201 1 (f2 := (24, [.ref 210, .int x1], [.int (1 : Int32)], gm M)) (b := true) rfl rfl ?_
        obtain ⟨e1, e2⟩ := some_p hs; subst e1; subst e2
        exact Rc.ret (v := some (.int (1 : Int32))) rfl rfl
      · rw [if_neg h1] at hs
        refine Rc.goL mt_201 2 (f2 := (if x1 < (300 : Int32) then 19 else 23, [.ref 210, .int x1], [], gm M)) (b := true) rfl rfl ?_
        rw [if_neg h1]
        refine Rc.goL mt_201 0 (f2 := (24, [.ref 210, .int x1], [.int (0 : Int32)], gm M)) (b := true) rfl rfl ?_
        obtain ⟨e1, e2⟩ := some_p hs; subst e1; subst e2
        exact Rc.ret (v := some (.int (0 : Int32))) rfl rfl
    · rw [if_neg h2] at hs
      refine Rc.goL mt_201 3 (f2 := (if x1 < (M.1 210 0) then 12 else 23, [.ref 210, .int x1], [], gm M)) (b := true) rfl rfl ?_
      rw [if_neg h2]
      refine Rc.goL mt_201 0 (f2 := (24, [.ref 210, .int x1], [.int (0 : Int32)], gm M)) (b := true) rfl rfl ?_
      obtain ⟨e1, e2⟩ := some_p hs; subst e1; subst e2
      exact Rc.ret (v := some (.int (0 : Int32))) rfl rfl
def qen_isFramesWeek (x0 : Int32) (x1 : Int32) (M : SM) : Option (Int32 × SM) :=
  if x0 < 0 then
  (some ((0 : Int32), M)) else
  (if x0 < (16 : Int32) then
    (ob (qfr_isWeek x1 M) (fun r1 M2 =>
      if r1 = 0 then
      (some ((0 : Int32), M2)) else
      (some ((1 : Int32), M2)))) else
    (some ((0 : Int32), M)))
theorem mt_202 : MT 202 K_202 LN_2 := ⟨rfl, rfl, by decide +kernel⟩
theorem okm_202 : OKm 202 := ⟨⟨vE_202, okL_2, by decide +kernel⟩, by decide +kernel, by decide +kernel, by decide +kernel⟩
set_option maxRecDepth 20000 in
theorem qen_isFramesWeek_ok (d : Nat) (hd : 2 ≤ d) {x0 : Int32} {x1 : Int32} {M : SM} {r : Int32} {Mz : SM} (hs : qen_isFramesWeek x0 x1 M = some (r, Mz)) : Ex d 202 [.int x0, .int x1] (gm M) (some (.int r), gm Mz) := by
  obtain ⟨d, rfl⟩ : ∃ d0, d = d0 + 1 := ⟨d - 1, by omega⟩
  refine Ex.of okm_202 (by omega) (Nat.le_of_ble_eq_true rfl) ?_
  show Rc (d + 1) 202 (0, [.int x0, .int x1], [], gm M) _
  unfold qen_isFramesWeek at hs
  by_cases h6 : x0 < 0
  · rw [if_pos h6] at hs
    refine Rc.goL mt_202 1 (f2 := (if x0 < 0 then 21 else 4, [.int x0, .int x1], [], gm M)) (b := true) rfl rfl ?_
    rw [if_pos h6]
    refine Rc.goL mt_202 0 (f2 := (22, [.int x0, .int x1], [.int (0 : Int32)], gm M)) (b := true) rfl rfl ?_
    obtain ⟨e1, e2⟩ := some_p hs; subst e1; subst e2
    exact Rc.ret (v := some (.int (0 : Int32))) rfl rfl
  · rw [if_neg h6] at hs
    refine Rc.goL mt_202 1 (f2 := (if x0 < 0 then 21 else 4, [.int x0, .int x1], [], gm M)) (b := true) rfl rfl ?_
    rw [if_neg h6]
    by_cases h5 : x0 < (16 : Int32)
    · rw [if_pos h5] at hs
      refine Rc.goL mt_202 2 (f2 := (if x0 < (16 : Int32) then 10 else 21, [.int x0, .int x1], [], gm M)) (b := true) rfl rfl ?_
      rw [if_pos h5]
      refine Rc.goL mt_202 0 (f2 := (11, [.int x0, .int x1], [.int x1], gm M)) (b := true) rfl rfl ?_
      obtain ⟨r1, M2, he3, hs⟩ := ob_some hs
      refine Rc.callS (i := 29) (mid' := 1138) (av := [.int x1]) (rest := []) (v := some (.int r1)) (M1 := gm M2) rfl (Or.inr rfl) rfl cw_1138 rfl (Nat.le_of_ble_eq_true rfl) (qfr_isWeek_ok _ (by omega) he3) ?_
      by_cases h4 : r1 = 0
      · rw [if_pos h4] at hs
        refine Rc.goL mt_202 0 (f2 := (if r1 = 0 then 21 else 17, [.int x0, .int x1], [], gm M2)) (b := true) rfl rfl ?_
        rw [if_pos h4]
        refine Rc.goL mt_202 0 (f2 := (22, [.int x0, .int x1], [.int (0 : Int32)], gm M2)) (b := true) rfl rfl ?_
        obtain ⟨e1, e2⟩ := some_p hs; subst e1; subst e2
        exact Rc.ret (v := some (.int (0 : Int32))) rfl rfl
      · rw [if_neg h4] at hs
        refine Rc.goL mt_202 0 (f2 := (if r1 = 0 then 21 else 17, [.int x0, .int x1], [], gm M2)) (b := true) rfl rfl ?_
        rw [if_neg h4]
        refine Rc.goL mt_202 1 (f2 := (22, [.int x0, .int x1], [.int (1 : Int32)], gm M2)) (b := true) rfl rfl ?_
        obtain ⟨e1, e2⟩ := some_p hs; subst e1; subst e2
        exact Rc.ret (v := some (.int (1 : Int32))) rfl rfl
    · rw [if_neg h5] at hs
      refine Rc.goL mt_202 2 (f2 := (if x0 < (16 : Int32) then 10 else 21, [.int x0, .int x1], [], gm M)) (b := true) rfl rfl ?_
      rw [if_neg h5]
      refine Rc.goL mt_202 0 (f2 := (22, [.int x0, .int x1], [.int (0 : Int32)], gm M)) (b := true) rfl rfl ?_
      obtain ⟨e1, e2⟩ := some_p hs; subst e1; subst e2
      exact Rc.ret (v := some (.int (0 : Int32))) rfl rfl
def qen_put (x1 : Int32) (x2 : Int32) (x3 : Int32) (M : SM) : Option (Unit × SM) :=
  ob (qen_has x1 M) (fun r1 M2 =>
  if r1 = 0 then
  (some ((), M2)) else
  (if x2 < 0 then
    (some ((), M2)) else
    (if x2 < (8 : Int32) then
      (ck (ib 8 x2 && (av 336 20 (212 + (Int32.toNatClampNeg x2)) x1 && true)) (
        some ((), (wI M2 (212 + (Int32.toNatClampNeg x2)) (Int32.toNatClampNeg x1) x3)))) else
      (some ((), M2)))))
theorem mt_204 : MT 204 K_204 LN_2 := ⟨rfl, rfl, by decide +kernel⟩
theorem okm_204 : OKm 204 := ⟨⟨vE_204, okL_2, by decide +kernel⟩, by decide +kernel, by decide +kernel, by decide +kernel⟩
set_option maxRecDepth 20000 in
theorem qen_put_ok (d : Nat) (hd : 2 ≤ d) {x1 : Int32} {x2 : Int32} {x3 : Int32} {M : SM} {r : Unit} {Mz : SM} (hs : qen_put x1 x2 x3 M = some (r, Mz)) : Ex d 204 [.ref 210, .int x1, .int x2, .int x3] (gm M) (none, gm Mz) := by
  obtain ⟨d, rfl⟩ : ∃ d0, d = d0 + 1 := ⟨d - 1, by omega⟩
  refine Ex.of okm_204 (by omega) (Nat.le_of_ble_eq_true rfl) ?_
  show Rc (d + 1) 204 (0, [.ref 210, .int x1, .int x2, .int x3], [], gm M) _
  unfold qen_put at hs
  refine Rc.goL mt_204 1 (f2 := (2, [.ref 210, .int x1, .int x2, .int x3], [.int x1, .ref 210], gm M)) (b := true) rfl rfl ?_
  obtain ⟨r1, M2, he3, hs⟩ := ob_some hs
  refine Rc.callV (i := 41) (mid' := 201) (av := [.int x1]) (rest := []) (v := some (.int r1)) (M1 := gm M2) (a := 210) rfl rfl rfl cw_201 rfl (Nat.le_of_ble_eq_true rfl) rfl (Nat.le_of_ble_eq_true rfl) (qen_has_ok _ (by omega) he3) ?_
  by_cases h7 : r1 = 0
  · rw [if_pos h7] at hs
    refine Rc.goL mt_204 0 (f2 := (if r1 = 0 then 27 else 8, [.ref 210, .int x1, .int x2, .int x3], [], gm M2)) (b := true) rfl rfl ?_
    rw [if_pos h7]
    obtain ⟨e1, e2⟩ := some_p hs; subst e1; subst e2
    exact Rc.ret (v := none) rfl rfl
  · rw [if_neg h7] at hs
    refine Rc.goL mt_204 0 (f2 := (if r1 = 0 then 27 else 8, [.ref 210, .int x1, .int x2, .int x3], [], gm M2)) (b := true) rfl rfl ?_
    rw [if_neg h7]
    by_cases h6 : x2 < 0
    · rw [if_pos h6] at hs
      refine Rc.goL mt_204 1 (f2 := (if x2 < 0 then 27 else 12, [.ref 210, .int x1, .int x2, .int x3], [], gm M2)) (b := true) rfl rfl ?_
      rw [if_pos h6]
      obtain ⟨e1, e2⟩ := some_p hs; subst e1; subst e2
      exact Rc.ret (v := none) rfl rfl
    · rw [if_neg h6] at hs
      refine Rc.goL mt_204 1 (f2 := (if x2 < 0 then 27 else 12, [.ref 210, .int x1, .int x2, .int x3], [], gm M2)) (b := true) rfl rfl ?_
      rw [if_neg h6]
      by_cases h5 : x2 < (8 : Int32)
      · rw [if_pos h5] at hs
        refine Rc.goL mt_204 2 (f2 := (if x2 < (8 : Int32) then 18 else 27, [.ref 210, .int x1, .int x2, .int x3], [], gm M2)) (b := true) rfl rfl ?_
        rw [if_pos h5]
        obtain ⟨hb4, hs⟩ := ck_some hs
        refine Rc.goL mt_204 6 (f2 := (27, [.ref 210, .int x1, .int x2, .int x3], [], gm (wI M2 (212 + (Int32.toNatClampNeg x2)) (Int32.toNatClampNeg x1) x3))) (b := (ib 8 x2 && (av 336 20 (212 + (Int32.toNatClampNeg x2)) x1 && true))) rfl hb4 ?_
        obtain ⟨e1, e2⟩ := some_p hs; subst e1; subst e2
        exact Rc.ret (v := none) rfl rfl
      · rw [if_neg h5] at hs
        refine Rc.goL mt_204 2 (f2 := (if x2 < (8 : Int32) then 18 else 27, [.ref 210, .int x1, .int x2, .int x3], [], gm M2)) (b := true) rfl rfl ?_
        rw [if_neg h5]
        obtain ⟨e1, e2⟩ := some_p hs; subst e1; subst e2
        exact Rc.ret (v := none) rfl rfl
def qen_open (x1 : Int32) (x2 : Int32) (x3 : Int32) (M : SM) : Option (Int32 × SM) :=
  if (M.1 210 0) < 0 then
  (some ((-1 : Int32), M)) else
  (if (M.1 210 0) < (300 : Int32) then
    (ob (qen_isFramesWeek x1 x2 M) (fun r1 M2 =>
      if r1 = 0 then
      (some ((-1 : Int32), M2)) else
      (ob (qen_put (M2.1 210 0) (0 : Int32) x1 (wI M2 210 0 ((M2.1 210 0) + (1 : Int32)))) (fun _ M4 =>
        ob (qen_put (M2.1 210 0) (1 : Int32) x2 M4) (fun _ M7 =>
        ob (qen_put (M2.1 210 0) (7 : Int32) x3 M7) (fun _ M10 =>
        ck (ib 16 x1 && (av 336 20 (222 + (Int32.toNatClampNeg x1)) x2 && (ib 300 (M2.1 210 0) && (ib 16 x1 && (av 336 20 (222 + (Int32.toNatClampNeg x1)) x2 && true))))) (
        some ((M2.1 210 0), (wI (wI M10 220 (Int32.toNatClampNeg (M2.1 210 0)) (M10.1 (222 + (Int32.toNatClampNeg x1)) (Int32.toNatClampNeg x2))) (222 + (Int32.toNatClampNeg x1)) (Int32.toNatClampNeg x2) (M2.1 210 0)))))))))) else
    (some ((-1 : Int32), M)))
theorem mt_203 : MT 203 K_203 LN_2 := ⟨rfl, rfl, by decide +kernel⟩
theorem okm_203 : OKm 203 := ⟨⟨vE_203, okL_2, by decide +kernel⟩, by decide +kernel, by decide +kernel, by decide +kernel⟩
set_option maxRecDepth 20000 in
theorem qen_open_ok (d : Nat) (hd : 3 ≤ d) {x1 : Int32} {x2 : Int32} {x3 : Int32} {M : SM} {r : Int32} {Mz : SM} (hs : qen_open x1 x2 x3 M = some (r, Mz)) : Ex d 203 [.ref 210, .int x1, .int x2, .int x3] (gm M) (some (.int r), gm Mz) := by
  obtain ⟨d, rfl⟩ : ∃ d0, d = d0 + 1 := ⟨d - 1, by omega⟩
  refine Ex.of okm_203 (by omega) (Nat.le_of_ble_eq_true rfl) ?_
  show Rc (d + 1) 203 (0, [.ref 210, .int x1, .int x2, .int x3, UU], [], gm M) _
  unfold qen_open at hs
  by_cases h16 : (M.1 210 0) < 0
  · rw [if_pos h16] at hs
    refine Rc.goL mt_203 2 (f2 := (if (M.1 210 0) < 0 then 25 else 7, [.ref 210, .int x1, .int x2, .int x3, UU], [], gm M)) (b := true) rfl rfl ?_
    rw [if_pos h16]
    refine Rc.goL mt_203 0 (f2 := (26, [.ref 210, .int x1, .int x2, .int x3, UU], [.int (-1 : Int32)], gm M)) (b := true) rfl rfl ?_
    obtain ⟨e1, e2⟩ := some_p hs; subst e1; subst e2
    exact Rc.ret (v := some (.int (-1 : Int32))) rfl rfl
  · rw [if_neg h16] at hs
    refine Rc.goL mt_203 2 (f2 := (if (M.1 210 0) < 0 then 25 else 7, [.ref 210, .int x1, .int x2, .int x3, UU], [], gm M)) (b := true) rfl rfl ?_
    rw [if_neg h16]
    by_cases h15 : (M.1 210 0) < (300 : Int32)
    · rw [if_pos h15] at hs
      refine Rc.goL mt_203 3 (f2 := (if (M.1 210 0) < (300 : Int32) then 17 else 25, [.ref 210, .int x1, .int x2, .int x3, UU], [], gm M)) (b := true) rfl rfl ?_
      rw [if_pos h15]
      refine Rc.goL mt_203 1 (f2 := (19, [.ref 210, .int x1, .int x2, .int x3, UU], [.int x2, .int x1], gm M)) (b := true) rfl rfl ?_
      obtain ⟨r1, M2, he3, hs⟩ := ob_some hs
      refine Rc.callS (i := 33) (mid' := 202) (av := [.int x1, .int x2]) (rest := []) (v := some (.int r1)) (M1 := gm M2) rfl (Or.inl rfl) rfl cw_202 rfl (Nat.le_of_ble_eq_true rfl) (qen_isFramesWeek_ok _ (by omega) he3) ?_
      by_cases h14 : r1 = 0
      · rw [if_pos h14] at hs
        refine Rc.goL mt_203 0 (f2 := (if r1 = 0 then 25 else 27, [.ref 210, .int x1, .int x2, .int x3, UU], [], gm M2)) (b := true) rfl rfl ?_
        rw [if_pos h14]
        refine Rc.goL mt_203 0 (f2 := (26, [.ref 210, .int x1, .int x2, .int x3, UU], [.int (-1 : Int32)], gm M2)) (b := true) rfl rfl ?_
        obtain ⟨e1, e2⟩ := some_p hs; subst e1; subst e2
        exact Rc.ret (v := some (.int (-1 : Int32))) rfl rfl
      · rw [if_neg h14] at hs
        refine Rc.goL mt_203 0 (f2 := (if r1 = 0 then 25 else 27, [.ref 210, .int x1, .int x2, .int x3, UU], [], gm M2)) (b := true) rfl rfl ?_
        rw [if_neg h14]
        refine Rc.goL mt_203 6 (f2 := (39, [.ref 210, .int x1, .int x2, .int x3, .int (M2.1 210 0)], [.int (1 : Int32), .int (M2.1 210 0), .ref 210], gm M2)) (b := true) rfl rfl ?_
        refine Rc.goL mt_203 1 (f2 := (43, [.ref 210, .int x1, .int x2, .int x3, .int (M2.1 210 0)], [], gm (wI M2 210 0 ((M2.1 210 0) + (1 : Int32))))) (b := true) rfl rfl ?_
        refine Rc.goL mt_203 3 (f2 := (48, [.ref 210, .int x1, .int x2, .int x3, .int (M2.1 210 0)], [.int x1, .int (0 : Int32), .int (M2.1 210 0), .ref 210], gm (wI M2 210 0 ((M2.1 210 0) + (1 : Int32))))) (b := true) rfl rfl ?_
        obtain ⟨u6, M4, he5, hs⟩ := ob_some hs
        refine Rc.callV (i := 37) (mid' := 204) (av := [.int (M2.1 210 0), .int (0 : Int32), .int x1]) (rest := []) (v := none) (M1 := gm M4) (a := 210) rfl rfl rfl cw_204 rfl (Nat.le_of_ble_eq_true rfl) rfl (Nat.le_of_ble_eq_true rfl) (qen_put_ok _ (by omega) he5) ?_
        refine Rc.goL mt_203 3 (f2 := (56, [.ref 210, .int x1, .int x2, .int x3, .int (M2.1 210 0)], [.int x2, .int (1 : Int32), .int (M2.1 210 0), .ref 210], gm M4)) (b := true) rfl rfl ?_
        obtain ⟨u9, M7, he8, hs⟩ := ob_some hs
        refine Rc.callV (i := 37) (mid' := 204) (av := [.int (M2.1 210 0), .int (1 : Int32), .int x2]) (rest := []) (v := none) (M1 := gm M7) (a := 210) rfl rfl rfl cw_204 rfl (Nat.le_of_ble_eq_true rfl) rfl (Nat.le_of_ble_eq_true rfl) (qen_put_ok _ (by omega) he8) ?_
        refine Rc.goL mt_203 3 (f2 := (65, [.ref 210, .int x1, .int x2, .int x3, .int (M2.1 210 0)], [.int x3, .int (7 : Int32), .int (M2.1 210 0), .ref 210], gm M7)) (b := true) rfl rfl ?_
        obtain ⟨u12, M10, he11, hs⟩ := ob_some hs
        refine Rc.callV (i := 37) (mid' := 204) (av := [.int (M2.1 210 0), .int (7 : Int32), .int x3]) (rest := []) (v := none) (M1 := gm M10) (a := 210) rfl rfl rfl cw_204 rfl (Nat.le_of_ble_eq_true rfl) rfl (Nat.le_of_ble_eq_true rfl) (qen_put_ok _ (by omega) he11) ?_
        obtain ⟨hb13, hs⟩ := ck_some hs
        obtain ⟨hb13_0, hb13⟩ := and_t hb13
        obtain ⟨hb13_1, hb13⟩ := and_t hb13
        obtain ⟨hb13_2, hb13⟩ := and_t hb13
        obtain ⟨hb13_3, hb13⟩ := and_t hb13
        obtain ⟨hb13_4, hb13⟩ := and_t hb13
        refine Rc.goL mt_203 6 (f2 := (80, [.ref 210, .int x1, .int x2, .int x3, .int (M2.1 210 0)], [.ref (222 + (Int32.toNatClampNeg x1)), .int (M2.1 210 0), .ref 220], gm M10)) (b := (ib 16 x1 && true)) rfl (and_i hb13_0 rfl) ?_
        refine Rc.goL mt_203 2 (f2 := (83, [.ref 210, .int x1, .int x2, .int x3, .int (M2.1 210 0)], [], gm (wI M10 220 (Int32.toNatClampNeg (M2.1 210 0)) (M10.1 (222 + (Int32.toNatClampNeg x1)) (Int32.toNatClampNeg x2))))) (b := (av 336 20 (222 + (Int32.toNatClampNeg x1)) x2 && (ib 300 (M2.1 210 0) && true))) rfl (and_i hb13_1 (and_i hb13_2 rfl)) ?_
        refine Rc.goL mt_203 6 (f2 := (93, [.ref 210, .int x1, .int x2, .int x3, .int (M2.1 210 0)], [], gm (wI (wI M10 220 (Int32.toNatClampNeg (M2.1 210 0)) (M10.1 (222 + (Int32.toNatClampNeg x1)) (Int32.toNatClampNeg x2))) (222 + (Int32.toNatClampNeg x1)) (Int32.toNatClampNeg x2) (M2.1 210 0)))) (b := (ib 16 x1 && (av 336 20 (222 + (Int32.toNatClampNeg x1)) x2 && true))) rfl (and_i hb13_3 (and_i hb13_4 rfl)) ?_
        refine Rc.goL mt_203 0 (f2 := (95, [.ref 210, .int x1, .int x2, .int x3, .int (M2.1 210 0)], [.int (M2.1 210 0)], gm (wI (wI M10 220 (Int32.toNatClampNeg (M2.1 210 0)) (M10.1 (222 + (Int32.toNatClampNeg x1)) (Int32.toNatClampNeg x2))) (222 + (Int32.toNatClampNeg x1)) (Int32.toNatClampNeg x2) (M2.1 210 0)))) (b := true) rfl rfl ?_
        obtain ⟨e1, e2⟩ := some_p hs; subst e1; subst e2
        exact Rc.ret (v := some (.int (M2.1 210 0))) rfl rfl
    · rw [if_neg h15] at hs
      refine Rc.goL mt_203 3 (f2 := (if (M.1 210 0) < (300 : Int32) then 17 else 25, [.ref 210, .int x1, .int x2, .int x3, UU], [], gm M)) (b := true) rfl rfl ?_
      rw [if_neg h15]
      refine Rc.goL mt_203 0 (f2 := (26, [.ref 210, .int x1, .int x2, .int x3, UU], [.int (-1 : Int32)], gm M)) (b := true) rfl rfl ?_
      obtain ⟨e1, e2⟩ := some_p hs; subst e1; subst e2
      exact Rc.ret (v := some (.int (-1 : Int32))) rfl rfl
def qen_at (x1 : Int32) (x2 : Int32) (M : SM) : Option (Int32 × SM) :=
  ob (qen_has x1 M) (fun r1 M2 =>
  if r1 = 0 then
  (some ((-1 : Int32), M2)) else
  (if x2 < 0 then
    (some ((-1 : Int32), M2)) else
    (if x2 < (8 : Int32) then
      (ck (ib 8 x2 && (av 336 20 (212 + (Int32.toNatClampNeg x2)) x1 && true)) (
        some ((M2.1 (212 + (Int32.toNatClampNeg x2)) (Int32.toNatClampNeg x1)), M2))) else
      (some ((-1 : Int32), M2)))))
theorem mt_205 : MT 205 K_205 LN_2 := ⟨rfl, rfl, by decide +kernel⟩
theorem okm_205 : OKm 205 := ⟨⟨vE_205, okL_2, by decide +kernel⟩, by decide +kernel, by decide +kernel, by decide +kernel⟩
set_option maxRecDepth 20000 in
theorem qen_at_ok (d : Nat) (hd : 2 ≤ d) {x1 : Int32} {x2 : Int32} {M : SM} {r : Int32} {Mz : SM} (hs : qen_at x1 x2 M = some (r, Mz)) : Ex d 205 [.ref 210, .int x1, .int x2] (gm M) (some (.int r), gm Mz) := by
  obtain ⟨d, rfl⟩ : ∃ d0, d = d0 + 1 := ⟨d - 1, by omega⟩
  refine Ex.of okm_205 (by omega) (Nat.le_of_ble_eq_true rfl) ?_
  show Rc (d + 1) 205 (0, [.ref 210, .int x1, .int x2], [], gm M) _
  unfold qen_at at hs
  refine Rc.goL mt_205 1 (f2 := (2, [.ref 210, .int x1, .int x2], [.int x1, .ref 210], gm M)) (b := true) rfl rfl ?_
  obtain ⟨r1, M2, he3, hs⟩ := ob_some hs
  refine Rc.callV (i := 41) (mid' := 201) (av := [.int x1]) (rest := []) (v := some (.int r1)) (M1 := gm M2) (a := 210) rfl rfl rfl cw_201 rfl (Nat.le_of_ble_eq_true rfl) rfl (Nat.le_of_ble_eq_true rfl) (qen_has_ok _ (by omega) he3) ?_
  by_cases h7 : r1 = 0
  · rw [if_pos h7] at hs
    refine Rc.goL mt_205 0 (f2 := (if r1 = 0 then 29 else 8, [.ref 210, .int x1, .int x2], [], gm M2)) (b := true) rfl rfl ?_
    rw [if_pos h7]
    refine Rc.goL mt_205 0 (f2 := (30, [.ref 210, .int x1, .int x2], [.int (-1 : Int32)], gm M2)) (b := true) rfl rfl ?_
    obtain ⟨e1, e2⟩ := some_p hs; subst e1; subst e2
    exact Rc.ret (v := some (.int (-1 : Int32))) rfl rfl
  · rw [if_neg h7] at hs
    refine Rc.goL mt_205 0 (f2 := (if r1 = 0 then 29 else 8, [.ref 210, .int x1, .int x2], [], gm M2)) (b := true) rfl rfl ?_
    rw [if_neg h7]
    by_cases h6 : x2 < 0
    · rw [if_pos h6] at hs
      refine Rc.goL mt_205 1 (f2 := (if x2 < 0 then 29 else 12, [.ref 210, .int x1, .int x2], [], gm M2)) (b := true) rfl rfl ?_
      rw [if_pos h6]
      refine Rc.goL mt_205 0 (f2 := (30, [.ref 210, .int x1, .int x2], [.int (-1 : Int32)], gm M2)) (b := true) rfl rfl ?_
      obtain ⟨e1, e2⟩ := some_p hs; subst e1; subst e2
      exact Rc.ret (v := some (.int (-1 : Int32))) rfl rfl
    · rw [if_neg h6] at hs
      refine Rc.goL mt_205 1 (f2 := (if x2 < 0 then 29 else 12, [.ref 210, .int x1, .int x2], [], gm M2)) (b := true) rfl rfl ?_
      rw [if_neg h6]
      by_cases h5 : x2 < (8 : Int32)
      · rw [if_pos h5] at hs
        refine Rc.goL mt_205 2 (f2 := (if x2 < (8 : Int32) then 18 else 29, [.ref 210, .int x1, .int x2], [], gm M2)) (b := true) rfl rfl ?_
        rw [if_pos h5]
        obtain ⟨hb4, hs⟩ := ck_some hs
        refine Rc.goL mt_205 6 (f2 := (30, [.ref 210, .int x1, .int x2], [.int (M2.1 (212 + (Int32.toNatClampNeg x2)) (Int32.toNatClampNeg x1))], gm M2)) (b := (ib 8 x2 && (av 336 20 (212 + (Int32.toNatClampNeg x2)) x1 && true))) rfl hb4 ?_
        obtain ⟨e1, e2⟩ := some_p hs; subst e1; subst e2
        exact Rc.ret (v := some (.int (M2.1 (212 + (Int32.toNatClampNeg x2)) (Int32.toNatClampNeg x1)))) rfl rfl
      · rw [if_neg h5] at hs
        refine Rc.goL mt_205 2 (f2 := (if x2 < (8 : Int32) then 18 else 29, [.ref 210, .int x1, .int x2], [], gm M2)) (b := true) rfl rfl ?_
        rw [if_neg h5]
        refine Rc.goL mt_205 0 (f2 := (30, [.ref 210, .int x1, .int x2], [.int (-1 : Int32)], gm M2)) (b := true) rfl rfl ?_
        obtain ⟨e1, e2⟩ := some_p hs; subst e1; subst e2
        exact Rc.ret (v := some (.int (-1 : Int32))) rfl rfl
def qen_knownAt_L23 (k54 : Int32 → SM → Option (Int32 × SM)) : Nat → Int32 → Int32 → Int32 → SM → Option (Int32 × SM)
  | 0, _, _, _, _ => none
  | n + 1, x3, x4, x5, M =>
    if x5 < (300 : Int32) then
    (ob (qen_has x4 M) (fun r6 M7 =>
      if r6 = 0 then
      (some (x4, M7)) else
      (ck (ib 8 (7 : Int32) && (av 336 20 (212 + (Int32.toNatClampNeg (7 : Int32))) x4 && true)) (
        if x3 < (M7.1 (212 + (Int32.toNatClampNeg (7 : Int32))) (Int32.toNatClampNeg x4)) then
        (ck (ib 300 x4 && true) (
          qen_knownAt_L23 k54 n x3 (M7.1 220 (Int32.toNatClampNeg x4)) (x5 + (1 : Int32)) M7)) else
        (k54 x4 M7))))) else
    (some (x4, M))
def qen_knownAt (x1 : Int32) (x2 : Int32) (x3 : Int32) (M : SM) : Option (Int32 × SM) :=
  ob (qen_isFramesWeek x1 x2 M) (fun r1 M2 =>
  if r1 = 0 then
  (some ((-1 : Int32), M2)) else
  (ck (ib 16 x1 && (av 336 20 (222 + (Int32.toNatClampNeg x1)) x2 && true)) (
    lt (M2.1 (222 + (Int32.toNatClampNeg x1)) (Int32.toNatClampNeg x2)) (fun (z5 : Int32) =>
    qen_knownAt_L23 (fun y4_14 M15 =>
    some (y4_14, M15)) FU x3 z5 (0 : Int32) M2))))
theorem mt_206 : MT 206 K_206 LN_2 := ⟨rfl, rfl, by decide +kernel⟩
theorem okm_206 : OKm 206 := ⟨⟨vE_206, okL_2, by decide +kernel⟩, by decide +kernel, by decide +kernel, by decide +kernel⟩
set_option maxRecDepth 20000 in
theorem qen_knownAt_L23_ok (d : Nat) (hd : 3 ≤ d + 1) (k54 : Int32 → SM → Option (Int32 × SM)) (hk54 : ∀ (y4 : Int32) (M : SM) (r : Int32) (Mz : SM), k54 y4 M = some (r, Mz) → Rc (d + 1) 206 (54, [UU, UU, UU, UU, .int y4, UU], [], gm M) (some (.int r), gm Mz)) : ∀ (n : Nat) (x3 : Int32) (x4 : Int32) (x5 : Int32) (M : SM) (r : Int32) (Mz : SM), qen_knownAt_L23 k54 n x3 x4 x5 M = some (r, Mz) → Rc (d + 1) 206 (23, [.ref 210, UU, UU, .int x3, .int x4, .int x5], [], gm M) (some (.int r), gm Mz) := by
  intro n
  induction n with
  | zero => intro x3 x4 x5 M r Mz hs; cases hs
  | succ n ih =>
    intro x3 x4 x5 M r Mz hs
    rw [qen_knownAt_L23] at hs
    by_cases h13 : x5 < (300 : Int32)
    · rw [if_pos h13] at hs
      refine Rc.goL mt_206 2 (f2 := (if x5 < (300 : Int32) then 31 else 72, [.ref 210, UU, UU, .int x3, .int x4, .int x5], [], gm M)) (b := true) rfl rfl ?_
      rw [if_pos h13]
      refine Rc.goL mt_206 1 (f2 := (34, [.ref 210, UU, UU, .int x3, .int x4, .int x5], [.int x4, .ref 210], gm M)) (b := true) rfl rfl ?_
      obtain ⟨r6, M7, he8, hs⟩ := ob_some hs
      refine Rc.callV (i := 41) (mid' := 201) (av := [.int x4]) (rest := []) (v := some (.int r6)) (M1 := gm M7) (a := 210) rfl rfl rfl cw_201 rfl (Nat.le_of_ble_eq_true rfl) rfl (Nat.le_of_ble_eq_true rfl) (qen_has_ok _ (by omega) he8) ?_
      by_cases h12 : r6 = 0
      · rw [if_pos h12] at hs
        refine Rc.goL mt_206 0 (f2 := (if r6 = 0 then 72 else 40, [.ref 210, UU, UU, .int x3, .int x4, .int x5], [], gm M7)) (b := true) rfl rfl ?_
        rw [if_pos h12]
        refine Rc.goL mt_206 0 (f2 := (74, [.ref 210, UU, UU, .int x3, .int x4, .int x5], [.int x4], gm M7)) (b := true) rfl rfl ?_
        obtain ⟨e1, e2⟩ := some_p hs; subst e1; subst e2
        exact Rc.ret (v := some (.int x4)) rfl rfl
      · rw [if_neg h12] at hs
        refine Rc.goL mt_206 0 (f2 := (if r6 = 0 then 72 else 40, [.ref 210, UU, UU, .int x3, .int x4, .int x5], [], gm M7)) (b := true) rfl rfl ?_
        rw [if_neg h12]
        obtain ⟨hb9, hs⟩ := ck_some hs
        obtain ⟨hb9_0, hb9⟩ := and_t hb9
        obtain ⟨hb9_1, hb9⟩ := and_t hb9
        refine Rc.goL mt_206 6 (f2 := (51, [.ref 210, UU, UU, .int x3, .int x4, .int x5], [.int x3, .int (M7.1 (212 + (Int32.toNatClampNeg (7 : Int32))) (Int32.toNatClampNeg x4))], gm M7)) (b := (ib 8 (7 : Int32) && (av 336 20 (212 + (Int32.toNatClampNeg (7 : Int32))) x4 && true))) rfl (and_i hb9_0 (and_i hb9_1 rfl)) ?_
        by_cases h11 : x3 < (M7.1 (212 + (Int32.toNatClampNeg (7 : Int32))) (Int32.toNatClampNeg x4))
        · rw [if_pos h11] at hs
          refine Rc.goL mt_206 0 (f2 := (if x3 < (M7.1 (212 + (Int32.toNatClampNeg (7 : Int32))) (Int32.toNatClampNeg x4)) then 57 else 54, [.ref 210, UU, UU, .int x3, .int x4, .int x5], [], gm M7)) (b := true) rfl rfl ?_
          rw [if_pos h11]
          obtain ⟨hb10, hs⟩ := ck_some hs
          refine Rc.goL mt_206 6 (f2 := (23, [.ref 210, UU, UU, .int x3, .int (M7.1 220 (Int32.toNatClampNeg x4)), .int (x5 + (1 : Int32))], [], gm M7)) (b := (ib 300 x4 && true)) rfl hb10 ?_
          refine Rc.less (ls2 := [.ref 210, UU, UU, .int x3, .int (M7.1 220 (Int32.toNatClampNeg x4)), .int (x5 + (1 : Int32))]) (by refine ⟨Or.inr rfl, Or.inl rfl, Or.inl rfl, Or.inr rfl, Or.inr rfl, Or.inr rfl, trivial⟩) ?_
          exact ih x3 (M7.1 220 (Int32.toNatClampNeg x4)) (x5 + (1 : Int32)) _ _ _ hs
        · rw [if_neg h11] at hs
          refine Rc.goL mt_206 0 (f2 := (if x3 < (M7.1 (212 + (Int32.toNatClampNeg (7 : Int32))) (Int32.toNatClampNeg x4)) then 57 else 54, [.ref 210, UU, UU, .int x3, .int x4, .int x5], [], gm M7)) (b := true) rfl rfl ?_
          rw [if_neg h11]
          refine Rc.less (ls2 := [UU, UU, UU, UU, .int x4, UU]) (by refine ⟨Or.inl rfl, Or.inl rfl, Or.inl rfl, Or.inl rfl, Or.inr rfl, Or.inl rfl, trivial⟩) ?_
          exact hk54 x4 _ _ _ hs
    · rw [if_neg h13] at hs
      refine Rc.goL mt_206 2 (f2 := (if x5 < (300 : Int32) then 31 else 72, [.ref 210, UU, UU, .int x3, .int x4, .int x5], [], gm M)) (b := true) rfl rfl ?_
      rw [if_neg h13]
      refine Rc.goL mt_206 0 (f2 := (74, [.ref 210, UU, UU, .int x3, .int x4, .int x5], [.int x4], gm M)) (b := true) rfl rfl ?_
      obtain ⟨e1, e2⟩ := some_p hs; subst e1; subst e2
      exact Rc.ret (v := some (.int x4)) rfl rfl
set_option maxRecDepth 20000 in
theorem qen_knownAt_ok (d : Nat) (hd : 3 ≤ d) {x1 : Int32} {x2 : Int32} {x3 : Int32} {M : SM} {r : Int32} {Mz : SM} (hs : qen_knownAt x1 x2 x3 M = some (r, Mz)) : Ex d 206 [.ref 210, .int x1, .int x2, .int x3] (gm M) (some (.int r), gm Mz) := by
  obtain ⟨d, rfl⟩ : ∃ d0, d = d0 + 1 := ⟨d - 1, by omega⟩
  refine Ex.of okm_206 (by omega) (Nat.le_of_ble_eq_true rfl) ?_
  show Rc (d + 1) 206 (0, [.ref 210, .int x1, .int x2, .int x3, UU, UU], [], gm M) _
  unfold qen_knownAt at hs
  refine Rc.goL mt_206 1 (f2 := (2, [.ref 210, .int x1, .int x2, .int x3, UU, UU], [.int x2, .int x1], gm M)) (b := true) rfl rfl ?_
  obtain ⟨r1, M2, he3, hs⟩ := ob_some hs
  refine Rc.callS (i := 33) (mid' := 202) (av := [.int x1, .int x2]) (rest := []) (v := some (.int r1)) (M1 := gm M2) rfl (Or.inl rfl) rfl cw_202 rfl (Nat.le_of_ble_eq_true rfl) (qen_isFramesWeek_ok _ (by omega) he3) ?_
  by_cases h16 : r1 = 0
  · rw [if_pos h16] at hs
    refine Rc.goL mt_206 0 (f2 := (if r1 = 0 then 8 else 10, [.ref 210, .int x1, .int x2, .int x3, UU, UU], [], gm M2)) (b := true) rfl rfl ?_
    rw [if_pos h16]
    refine Rc.goL mt_206 0 (f2 := (9, [.ref 210, .int x1, .int x2, .int x3, UU, UU], [.int (-1 : Int32)], gm M2)) (b := true) rfl rfl ?_
    obtain ⟨e1, e2⟩ := some_p hs; subst e1; subst e2
    exact Rc.ret (v := some (.int (-1 : Int32))) rfl rfl
  · rw [if_neg h16] at hs
    refine Rc.goL mt_206 0 (f2 := (if r1 = 0 then 8 else 10, [.ref 210, .int x1, .int x2, .int x3, UU, UU], [], gm M2)) (b := true) rfl rfl ?_
    rw [if_neg h16]
    obtain ⟨hb4, hs⟩ := ck_some hs
    refine lt_g hs (fun z5 Hz5 hs => ?_)
    refine Rc.goL mt_206 6 (f2 := (20, [.ref 210, .int x1, .int x2, .int x3, .int z5, UU], [], gm M2)) (b := (ib 16 x1 && (av 336 20 (222 + (Int32.toNatClampNeg x1)) x2 && true))) (by subst Hz5; rfl) hb4 ?_
    refine Rc.goL mt_206 1 (f2 := (23, [.ref 210, .int x1, .int x2, .int x3, .int z5, .int (0 : Int32)], [], gm M2)) (b := true) rfl rfl ?_
    refine Rc.less (ls2 := [.ref 210, UU, UU, .int x3, .int z5, .int (0 : Int32)]) (by refine ⟨Or.inr rfl, Or.inl rfl, Or.inl rfl, Or.inr rfl, Or.inr rfl, Or.inr rfl, trivial⟩) ?_
    refine qen_knownAt_L23_ok d hd _ (fun y4_14 M15 r Mz hs => ?_) _ x3 z5 (0 : Int32) _ _ _ hs
    · refine Rc.goL mt_206 0 (f2 := (72, [UU, UU, UU, UU, .int y4_14, UU], [], gm M15)) (b := true) rfl rfl ?_
      refine Rc.goL mt_206 0 (f2 := (74, [UU, UU, UU, UU, .int y4_14, UU], [.int y4_14], gm M15)) (b := true) rfl rfl ?_
      obtain ⟨e1, e2⟩ := some_p hs; subst e1; subst e2
      exact Rc.ret (v := some (.int y4_14)) rfl rfl
