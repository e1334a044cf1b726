def qmd_uses_L46 : Nat → Int32 → Int32 → Int32 → SM → Option (Int32 × SM)
  | 0, _, _, _, _ => none
  | n + 1, x1, x2, x3, M =>
    if x3 < (520 : Int32) then
    (ck (ib 3120 (((520 : Int32) * x1) + x3) && true) (
      qmd_uses_L46 n x1 x2 (x3 + (1 : Int32)) (wI M 287 (Int32.toNatClampNeg (((520 : Int32) * x1) + x3)) x2))) else
    (some ((1 : Int32), M))
def qmd_uses (x1 : Int32) (x2 : Int32) (M : SM) : Option (Int32 × SM) :=
  ob (qmd_isMaster x1 M) (fun r1 M2 =>
  if r1 = 0 then
  (some ((0 : Int32), M2)) else
  (if x2 < 0 then
    (some ((0 : Int32), M2)) else
    (if x2 < (M2.1 280 27) then
      (ck (ib 3120 (((520 : Int32) * x1) + (M2.1 280 0)) && true) (
        if (M2.1 287 (Int32.toNatClampNeg (((520 : Int32) * x1) + (M2.1 280 0)))) = x2 then
        (some ((0 : Int32), M2)) else
        (qmd_uses_L46 FU x1 x2 (M2.1 280 0) M2))) else
      (some ((0 : Int32), M2)))))
theorem mt_1247 : MT 1247 K_1247 LN_12 := ⟨rfl, rfl, by decide +kernel⟩
theorem okm_1247 : OKm 1247 := ⟨⟨vE_1247, okL_12, by decide +kernel⟩, by decide +kernel, by decide +kernel, by decide +kernel⟩
set_option maxRecDepth 20000 in
theorem qmd_uses_L46_ok (d : Nat) (hd : 2 ≤ d + 1) : ∀ (n : Nat) (x1 : Int32) (x2 : Int32) (x3 : Int32) (M : SM) (r : Int32) (Mz : SM), qmd_uses_L46 n x1 x2 x3 M = some (r, Mz) → Rc (d + 1) 1247 (46, [.ref 280, .int x1, .int x2, .int x3], [], gm M) (some (.int r), gm Mz) := by
  intro n
  induction n with
  | zero => intro x1 x2 x3 M r Mz hs; cases hs
  | succ n ih =>
    intro x1 x2 x3 M r Mz hs
    rw [qmd_uses_L46] at hs
    by_cases h6 : x3 < (520 : Int32)
    · rw [if_pos h6] at hs
      refine Rc.goL mt_1247 2 (f2 := (if x3 < (520 : Int32) then 53 else 72, [.ref 280, .int x1, .int x2, .int x3], [], gm M)) (b := true) rfl rfl ?_
      rw [if_pos h6]
      obtain ⟨hb5, hs⟩ := ck_some hs
      obtain ⟨hb5_0, hb5⟩ := and_t hb5
      refine Rc.goL mt_1247 6 (f2 := (64, [.ref 280, .int x1, .int x2, .int x3], [.int (((520 : Int32) * x1) + x3), .ref 287], gm M)) (b := true) rfl rfl ?_
      refine Rc.goL mt_1247 1 (f2 := (66, [.ref 280, .int x1, .int x2, .int x3], [], gm (wI M 287 (Int32.toNatClampNeg (((520 : Int32) * x1) + x3)) x2))) (b := (ib 3120 (((520 : Int32) * x1) + x3) && true)) rfl (and_i hb5_0 rfl) ?_
      refine Rc.goL mt_1247 1 (f2 := (46, [.ref 280, .int x1, .int x2, .int (x3 + (1 : Int32))], [], gm (wI M 287 (Int32.toNatClampNeg (((520 : Int32) * x1) + x3)) x2))) (b := true) rfl rfl ?_
      refine Rc.less (ls2 := [.ref 280, .int x1, .int x2, .int (x3 + (1 : Int32))]) (by refine ⟨Or.inr rfl, Or.inr rfl, Or.inr rfl, Or.inr rfl, trivial⟩) ?_
      exact ih x1 x2 (x3 + (1 : Int32)) _ _ _ hs
    · rw [if_neg h6] at hs
      refine Rc.goL mt_1247 2 (f2 := (if x3 < (520 : Int32) then 53 else 72, [.ref 280, .int x1, .int x2, .int x3], [], gm M)) (b := true) rfl rfl ?_
      rw [if_neg h6]
      refine Rc.goL mt_1247 0 (f2 := (73, [.ref 280, .int x1, .int x2, .int x3], [.int (1 : Int32)], gm M)) (b := true) rfl rfl ?_
      obtain ⟨e1, e2⟩ := some_p hs; subst e1; subst e2
      exact Rc.ret (v := some (.int (1 : Int32))) rfl rfl
set_option maxRecDepth 20000 in
theorem qmd_uses_ok (d : Nat) (hd : 2 ≤ d) {x1 : Int32} {x2 : Int32} {M : SM} {r : Int32} {Mz : SM} (hs : qmd_uses x1 x2 M = some (r, Mz)) : Ex d 1247 [.ref 280, .int x1, .int x2] (gm M) (some (.int r), gm Mz) := by
  obtain ⟨d, rfl⟩ : ∃ d0, d = d0 + 1 := ⟨d - 1, by omega⟩
  refine Ex.of okm_1247 (by omega) (Nat.le_of_ble_eq_true rfl) ?_
  show Rc (d + 1) 1247 (0, [.ref 280, .int x1, .int x2, UU], [], gm M) _
  unfold qmd_uses at hs
  refine Rc.goL mt_1247 1 (f2 := (2, [.ref 280, .int x1, .int x2, UU], [.int x1, .ref 280], gm M)) (b := true) rfl rfl ?_
  obtain ⟨r1, M2, he3, hs⟩ := ob_some hs
  refine Rc.callV (i := 191) (mid' := 1202) (av := [.int x1]) (rest := []) (v := some (.int r1)) (M1 := gm M2) (a := 280) rfl rfl rfl cw_1202 rfl (Nat.le_of_ble_eq_true rfl) rfl (Nat.le_of_ble_eq_true rfl) (qmd_isMaster_ok _ (by omega) he3) ?_
  by_cases h10 : r1 = 0
  · rw [if_pos h10] at hs
    refine Rc.goL mt_1247 0 (f2 := (if r1 = 0 then 39 else 8, [.ref 280, .int x1, .int x2, UU], [], gm M2)) (b := true) rfl rfl ?_
    rw [if_pos h10]
    refine Rc.goL mt_1247 0 (f2 := (40, [.ref 280, .int x1, .int x2, UU], [.int (0 : Int32)], gm M2)) (b := true) rfl rfl ?_
    obtain ⟨e1, e2⟩ := some_p hs; subst e1; subst e2
    exact Rc.ret (v := some (.int (0 : Int32))) rfl rfl
  · rw [if_neg h10] at hs
    refine Rc.goL mt_1247 0 (f2 := (if r1 = 0 then 39 else 8, [.ref 280, .int x1, .int x2, UU], [], gm M2)) (b := true) rfl rfl ?_
    rw [if_neg h10]
    by_cases h9 : x2 < 0
    · rw [if_pos h9] at hs
      refine Rc.goL mt_1247 1 (f2 := (if x2 < 0 then 39 else 12, [.ref 280, .int x1, .int x2, UU], [], gm M2)) (b := true) rfl rfl ?_
      rw [if_pos h9]
      refine Rc.goL mt_1247 0 (f2 := (40, [.ref 280, .int x1, .int x2, UU], [.int (0 : Int32)], gm M2)) (b := true) rfl rfl ?_
      obtain ⟨e1, e2⟩ := some_p hs; subst e1; subst e2
      exact Rc.ret (v := some (.int (0 : Int32))) rfl rfl
    · rw [if_neg h9] at hs
      refine Rc.goL mt_1247 1 (f2 := (if x2 < 0 then 39 else 12, [.ref 280, .int x1, .int x2, UU], [], gm M2)) (b := true) rfl rfl ?_
      rw [if_neg h9]
      by_cases h8 : x2 < (M2.1 280 27)
      · rw [if_pos h8] at hs
        refine Rc.goL mt_1247 3 (f2 := (if x2 < (M2.1 280 27) then 20 else 39, [.ref 280, .int x1, .int x2, UU], [], gm M2)) (b := true) rfl rfl ?_
        rw [if_pos h8]
        obtain ⟨hb4, hs⟩ := ck_some hs
        obtain ⟨hb4_0, hb4⟩ := and_t hb4
        refine Rc.goL mt_1247 6 (f2 := (33, [.ref 280, .int x1, .int x2, UU], [.int (M2.1 280 0), .int ((520 : Int32) * x1), .ref 287], gm M2)) (b := true) rfl rfl ?_
        by_cases h7 : (M2.1 287 (Int32.toNatClampNeg (((520 : Int32) * x1) + (M2.1 280 0)))) = x2
        · rw [if_pos h7] at hs
          refine Rc.goL mt_1247 3 (f2 := (if (M2.1 287 (Int32.toNatClampNeg (((520 : Int32) * x1) + (M2.1 280 0)))) = x2 then 39 else 41, [.ref 280, .int x1, .int x2, UU], [], gm M2)) (b := (ib 3120 (((520 : Int32) * x1) + (M2.1 280 0)) && true)) rfl (and_i hb4_0 rfl) ?_
          rw [if_pos h7]
          refine Rc.goL mt_1247 0 (f2 := (40, [.ref 280, .int x1, .int x2, UU], [.int (0 : Int32)], gm M2)) (b := true) rfl rfl ?_
          obtain ⟨e1, e2⟩ := some_p hs; subst e1; subst e2
          exact Rc.ret (v := some (.int (0 : Int32))) rfl rfl
        · rw [if_neg h7] at hs
          refine Rc.goL mt_1247 3 (f2 := (if (M2.1 287 (Int32.toNatClampNeg (((520 : Int32) * x1) + (M2.1 280 0)))) = x2 then 39 else 41, [.ref 280, .int x1, .int x2, UU], [], gm M2)) (b := (ib 3120 (((520 : Int32) * x1) + (M2.1 280 0)) && true)) rfl (and_i hb4_0 rfl) ?_
          rw [if_neg h7]
          refine Rc.goL mt_1247 2 (f2 := (46, [.ref 280, .int x1, .int x2, .int (M2.1 280 0)], [], gm M2)) (b := true) rfl rfl ?_
          refine Rc.less (ls2 := [.ref 280, .int x1, .int x2, .int (M2.1 280 0)]) (by refine ⟨Or.inr rfl, Or.inr rfl, Or.inr rfl, Or.inr rfl, trivial⟩) ?_
          exact qmd_uses_L46_ok d hd _ x1 x2 (M2.1 280 0) _ _ _ hs
      · rw [if_neg h8] at hs
        refine Rc.goL mt_1247 3 (f2 := (if x2 < (M2.1 280 27) then 20 else 39, [.ref 280, .int x1, .int x2, UU], [], gm M2)) (b := true) rfl rfl ?_
        rw [if_neg h8]
        refine Rc.goL mt_1247 0 (f2 := (40, [.ref 280, .int x1, .int x2, UU], [.int (0 : Int32)], gm M2)) (b := true) rfl rfl ?_
        obtain ⟨e1, e2⟩ := some_p hs; subst e1; subst e2
        exact Rc.ret (v := some (.int (0 : Int32))) rfl rfl
def qmd_listOf (x1 : Int32) (x2 : Int32) (M : SM) : Option (Int32 × SM) :=
  ob (qmd_isMaster x1 M) (fun r1 M2 =>
  if r1 = 0 then
  (some ((-1 : Int32), M2)) else
  (ob (qmd_isWeek x2 M2) (fun r4 M5 =>
    if r4 = 0 then
    (some ((-1 : Int32), M5)) else
    (ck (ib 3120 (((520 : Int32) * x1) + x2) && true) (
      some ((M5.1 287 (Int32.toNatClampNeg (((520 : Int32) * x1) + x2))), M5))))))
theorem mt_1248 : MT 1248 K_1248 LN_12 := ⟨rfl, rfl, by decide +kernel⟩
theorem okm_1248 : OKm 1248 := ⟨⟨vE_1248, okL_12, by decide +kernel⟩, by decide +kernel, by decide +kernel, by decide +kernel⟩
set_option maxRecDepth 20000 in
theorem qmd_listOf_ok (d : Nat) (hd : 2 ≤ d) {x1 : Int32} {x2 : Int32} {M : SM} {r : Int32} {Mz : SM} (hs : qmd_listOf x1 x2 M = some (r, Mz)) : Ex d 1248 [.ref 280, .int x1, .int x2] (gm M) (some (.int r), gm Mz) := by
  obtain ⟨d, rfl⟩ : ∃ d0, d = d0 + 1 := ⟨d - 1, by omega⟩
  refine Ex.of okm_1248 (by omega) (Nat.le_of_ble_eq_true rfl) ?_
  show Rc (d + 1) 1248 (0, [.ref 280, .int x1, .int x2], [], gm M) _
  unfold qmd_listOf at hs
  refine Rc.goL mt_1248 1 (f2 := (2, [.ref 280, .int x1, .int x2], [.int x1, .ref 280], gm M)) (b := true) rfl rfl ?_
  obtain ⟨r1, M2, he3, hs⟩ := ob_some hs
  refine Rc.callV (i := 191) (mid' := 1202) (av := [.int x1]) (rest := []) (v := some (.int r1)) (M1 := gm M2) (a := 280) rfl rfl rfl cw_1202 rfl (Nat.le_of_ble_eq_true rfl) rfl (Nat.le_of_ble_eq_true rfl) (qmd_isMaster_ok _ (by omega) he3) ?_
  by_cases h9 : r1 = 0
  · rw [if_pos h9] at hs
    refine Rc.goL mt_1248 0 (f2 := (if r1 = 0 then 30 else 8, [.ref 280, .int x1, .int x2], [], gm M2)) (b := true) rfl rfl ?_
    rw [if_pos h9]
    refine Rc.goL mt_1248 0 (f2 := (31, [.ref 280, .int x1, .int x2], [.int (-1 : Int32)], gm M2)) (b := true) rfl rfl ?_
    obtain ⟨e1, e2⟩ := some_p hs; subst e1; subst e2
    exact Rc.ret (v := some (.int (-1 : Int32))) rfl rfl
  · rw [if_neg h9] at hs
    refine Rc.goL mt_1248 0 (f2 := (if r1 = 0 then 30 else 8, [.ref 280, .int x1, .int x2], [], gm M2)) (b := true) rfl rfl ?_
    rw [if_neg h9]
    refine Rc.goL mt_1248 0 (f2 := (9, [.ref 280, .int x1, .int x2], [.int x2], gm M2)) (b := true) rfl rfl ?_
    obtain ⟨r4, M5, he6, hs⟩ := ob_some hs
    refine Rc.callS (i := 323) (mid' := 1205) (av := [.int x2]) (rest := []) (v := some (.int r4)) (M1 := gm M5) rfl (Or.inl rfl) rfl cw_1205 rfl (Nat.le_of_ble_eq_true rfl) (qmd_isWeek_ok _ (by omega) he6) ?_
    by_cases h8 : r4 = 0
    · rw [if_pos h8] at hs
      refine Rc.goL mt_1248 0 (f2 := (if r4 = 0 then 30 else 15, [.ref 280, .int x1, .int x2], [], gm M5)) (b := true) rfl rfl ?_
      rw [if_pos h8]
      refine Rc.goL mt_1248 0 (f2 := (31, [.ref 280, .int x1, .int x2], [.int (-1 : Int32)], gm M5)) (b := true) rfl rfl ?_
      obtain ⟨e1, e2⟩ := some_p hs; subst e1; subst e2
      exact Rc.ret (v := some (.int (-1 : Int32))) rfl rfl
    · rw [if_neg h8] at hs
      refine Rc.goL mt_1248 0 (f2 := (if r4 = 0 then 30 else 15, [.ref 280, .int x1, .int x2], [], gm M5)) (b := true) rfl rfl ?_
      rw [if_neg h8]
      obtain ⟨hb7, hs⟩ := ck_some hs
      obtain ⟨hb7_0, hb7⟩ := and_t hb7
      refine Rc.goL mt_1248 6 (f2 := (26, [.ref 280, .int x1, .int x2], [.int (((520 : Int32) * x1) + x2), .ref 287], gm M5)) (b := true) rfl rfl ?_
      refine Rc.goL mt_1248 1 (f2 := (31, [.ref 280, .int x1, .int x2], [.int (M5.1 287 (Int32.toNatClampNeg (((520 : Int32) * x1) + x2)))], gm M5)) (b := (ib 3120 (((520 : Int32) * x1) + x2) && true)) rfl (and_i hb7_0 rfl) ?_
      obtain ⟨e1, e2⟩ := some_p hs; subst e1; subst e2
      exact Rc.ret (v := some (.int (M5.1 287 (Int32.toNatClampNeg (((520 : Int32) * x1) + x2))))) rfl rfl
def qmd_entry (x1 : Int32) (x2 : Int32) (x3 : Int32) (x4 : Int32) (x5 : Int32) (x6 : Int32) (x7 : Int32) (M : SM) : Option (Int32 × SM) :=
  ob (qmd_isFrame x1 M) (fun r1 M2 =>
  if r1 = 0 then
  (some ((-1 : Int32), M2)) else
  (ob (qmd_in x2 (0 : Int32) (M2.1 280 0) M2) (fun r4 M5 =>
    if r4 = 0 then
    (some ((-1 : Int32), M5)) else
    (ob (qmd_in x3 (0 : Int32) (9 : Int32) M5) (fun r7 M8 =>
      if r7 = 0 then
      (some ((-1 : Int32), M8)) else
      (ob (qmd_in x4 (0 : Int32) (99 : Int32) M8) (fun r10 M11 =>
        if r10 = 0 then
        (some ((-1 : Int32), M11)) else
        (ob (qmd_in x5 (0 : Int32) (999 : Int32) M11) (fun r13 M14 =>
          if r13 = 0 then
          (some ((-1 : Int32), M14)) else
          (ob (qmd_in x6 (0 : Int32) (9999 : Int32) M14) (fun r16 M17 =>
            if r16 = 0 then
            (some ((-1 : Int32), M17)) else
            (ob (qmd_in x7 (0 : Int32) (9999 : Int32) M17) (fun r19 M20 =>
              if r19 = 0 then
              (some ((-1 : Int32), M20)) else
              (if (M20.1 280 43) = (300 : Int32) then
                (some ((-1 : Int32), M20)) else
                (ck (ib 300 (M20.1 280 43) && (ib 300 (M20.1 280 43) && (ib 300 (M20.1 280 43) && (ib 300 (M20.1 280 43) && (ib 300 (M20.1 280 43) && (ib 300 (M20.1 280 43) && (ib 300 (M20.1 280 43) && (ib 300 (M20.1 280 43) && true)))))))) (
                  some ((((M20.1 280 43) + (1 : Int32)) - (1 : Int32)), (wI (wI (wI (wI (wI (wI (wI (wI (wI M20 310 (Int32.toNatClampNeg (M20.1 280 43)) x1) 311 (Int32.toNatClampNeg (M20.1 280 43)) x2) 312 (Int32.toNatClampNeg (M20.1 280 43)) x3) 313 (Int32.toNatClampNeg (M20.1 280 43)) x4) 314 (Int32.toNatClampNeg (M20.1 280 43)) x5) 315 (Int32.toNatClampNeg (M20.1 280 43)) x6) 316 (Int32.toNatClampNeg (M20.1 280 43)) x7) 317 (Int32.toNatClampNeg (M20.1 280 43)) (M20.1 280 0)) 280 43 ((M20.1 280 43) + (1 : Int32))))))))))))))))))))
theorem mt_1249 : MT 1249 K_1249 LN_12 := ⟨rfl, rfl, by decide +kernel⟩
theorem okm_1249 : OKm 1249 := ⟨⟨vE_1249, okL_12, by decide +kernel⟩, by decide +kernel, by decide +kernel, by decide +kernel⟩
set_option maxRecDepth 20000 in
theorem qmd_entry_ok (d : Nat) (hd : 2 ≤ d) {x1 : Int32} {x2 : Int32} {x3 : Int32} {x4 : Int32} {x5 : Int32} {x6 : Int32} {x7 : Int32} {M : SM} {r : Int32} {Mz : SM} (hs : qmd_entry x1 x2 x3 x4 x5 x6 x7 M = some (r, Mz)) : Ex d 1249 [.ref 280, .int x1, .int x2, .int x3, .int x4, .int x5, .int x6, .int x7] (gm M) (some (.int r), gm Mz) := by
  obtain ⟨d, rfl⟩ : ∃ d0, d = d0 + 1 := ⟨d - 1, by omega⟩
  refine Ex.of okm_1249 (by omega) (Nat.le_of_ble_eq_true rfl) ?_
  show Rc (d + 1) 1249 (0, [.ref 280, .int x1, .int x2, .int x3, .int x4, .int x5, .int x6, .int x7], [], gm M) _
  unfold qmd_entry at hs
  refine Rc.goL mt_1249 1 (f2 := (2, [.ref 280, .int x1, .int x2, .int x3, .int x4, .int x5, .int x6, .int x7], [.int x1, .ref 280], gm M)) (b := true) rfl rfl ?_
  obtain ⟨r1, M2, he3, hs⟩ := ob_some hs
  refine Rc.callV (i := 205) (mid' := 1204) (av := [.int x1]) (rest := []) (v := some (.int r1)) (M1 := gm M2) (a := 280) rfl rfl rfl cw_1204 rfl (Nat.le_of_ble_eq_true rfl) rfl (Nat.le_of_ble_eq_true rfl) (qmd_isFrame_ok _ (by omega) he3) ?_
  by_cases h30 : r1 = 0
  · rw [if_pos h30] at hs
    refine Rc.goL mt_1249 0 (f2 := (if r1 = 0 then 87 else 8, [.ref 280, .int x1, .int x2, .int x3, .int x4, .int x5, .int x6, .int x7], [], gm M2)) (b := true) rfl rfl ?_
    rw [if_pos h30]
    refine Rc.goL mt_1249 0 (f2 := (88, [.ref 280, .int x1, .int x2, .int x3, .int x4, .int x5, .int x6, .int x7], [.int (-1 : Int32)], gm M2)) (b := true) rfl rfl ?_
    obtain ⟨e1, e2⟩ := some_p hs; subst e1; subst e2
    exact Rc.ret (v := some (.int (-1 : Int32))) rfl rfl
  · rw [if_neg h30] at hs
    refine Rc.goL mt_1249 0 (f2 := (if r1 = 0 then 87 else 8, [.ref 280, .int x1, .int x2, .int x3, .int x4, .int x5, .int x6, .int x7], [], gm M2)) (b := true) rfl rfl ?_
    rw [if_neg h30]
    refine Rc.goL mt_1249 3 (f2 := (14, [.ref 280, .int x1, .int x2, .int x3, .int x4, .int x5, .int x6, .int x7], [.int (M2.1 280 0), .int (0 : Int32), .int x2], gm M2)) (b := true) rfl rfl ?_
    obtain ⟨r4, M5, he6, hs⟩ := ob_some hs
    refine Rc.callS (i := 195) (mid' := 1201) (av := [.int x2, .int (0 : Int32), .int (M2.1 280 0)]) (rest := []) (v := some (.int r4)) (M1 := gm M5) rfl (Or.inl rfl) rfl cw_1201 rfl (Nat.le_of_ble_eq_true rfl) (qmd_in_ok _ (by omega) he6) ?_
    by_cases h29 : r4 = 0
    · rw [if_pos h29] at hs
      refine Rc.goL mt_1249 0 (f2 := (if r4 = 0 then 87 else 20, [.ref 280, .int x1, .int x2, .int x3, .int x4, .int x5, .int x6, .int x7], [], gm M5)) (b := true) rfl rfl ?_
      rw [if_pos h29]
      refine Rc.goL mt_1249 0 (f2 := (88, [.ref 280, .int x1, .int x2, .int x3, .int x4, .int x5, .int x6, .int x7], [.int (-1 : Int32)], gm M5)) (b := true) rfl rfl ?_
      obtain ⟨e1, e2⟩ := some_p hs; subst e1; subst e2
      exact Rc.ret (v := some (.int (-1 : Int32))) rfl rfl
    · rw [if_neg h29] at hs
      refine Rc.goL mt_1249 0 (f2 := (if r4 = 0 then 87 else 20, [.ref 280, .int x1, .int x2, .int x3, .int x4, .int x5, .int x6, .int x7], [], gm M5)) (b := true) rfl rfl ?_
      rw [if_neg h29]
      refine Rc.goL mt_1249 2 (f2 := (24, [.ref 280, .int x1, .int x2, .int x3, .int x4, .int x5, .int x6, .int x7], [.int (9 : Int32), .int (0 : Int32), .int x3], gm M5)) (b := true) rfl rfl ?_
      obtain ⟨r7, M8, he9, hs⟩ := ob_some hs
      refine Rc.callS (i := 195) (mid' := 1201) (av := [.int x3, .int (0 : Int32), .int (9 : Int32)]) (rest := []) (v := some (.int r7)) (M1 := gm M8) rfl (Or.inl rfl) rfl cw_1201 rfl (Nat.le_of_ble_eq_true rfl) (qmd_in_ok _ (by omega) he9) ?_
      by_cases h28 : r7 = 0
      · rw [if_pos h28] at hs
        refine Rc.goL mt_1249 0 (f2 := (if r7 = 0 then 87 else 30, [.ref 280, .int x1, .int x2, .int x3, .int x4, .int x5, .int x6, .int x7], [], gm M8)) (b := true) rfl rfl ?_
        rw [if_pos h28]
        refine Rc.goL mt_1249 0 (f2 := (88, [.ref 280, .int x1, .int x2, .int x3, .int x4, .int x5, .int x6, .int x7], [.int (-1 : Int32)], gm M8)) (b := true) rfl rfl ?_
        obtain ⟨e1, e2⟩ := some_p hs; subst e1; subst e2
        exact Rc.ret (v := some (.int (-1 : Int32))) rfl rfl
      · rw [if_neg h28] at hs
        refine Rc.goL mt_1249 0 (f2 := (if r7 = 0 then 87 else 30, [.ref 280, .int x1, .int x2, .int x3, .int x4, .int x5, .int x6, .int x7], [], gm M8)) (b := true) rfl rfl ?_
        rw [if_neg h28]
        refine Rc.goL mt_1249 2 (f2 := (35, [.ref 280, .int x1, .int x2, .int x3, .int x4, .int x5, .int x6, .int x7], [.int (99 : Int32), .int (0 : Int32), .int x4], gm M8)) (b := true) rfl rfl ?_
        obtain ⟨r10, M11, he12, hs⟩ := ob_some hs
        refine Rc.callS (i := 195) (mid' := 1201) (av := [.int x4, .int (0 : Int32), .int (99 : Int32)]) (rest := []) (v := some (.int r10)) (M1 := gm M11) rfl (Or.inl rfl) rfl cw_1201 rfl (Nat.le_of_ble_eq_true rfl) (qmd_in_ok _ (by omega) he12) ?_
        by_cases h27 : r10 = 0
        · rw [if_pos h27] at hs
          refine Rc.goL mt_1249 0 (f2 := (if r10 = 0 then 87 else 41, [.ref 280, .int x1, .int x2, .int x3, .int x4, .int x5, .int x6, .int x7], [], gm M11)) (b := true) rfl rfl ?_
          rw [if_pos h27]
          refine Rc.goL mt_1249 0 (f2 := (88, [.ref 280, .int x1, .int x2, .int x3, .int x4, .int x5, .int x6, .int x7], [.int (-1 : Int32)], gm M11)) (b := true) rfl rfl ?_
          obtain ⟨e1, e2⟩ := some_p hs; subst e1; subst e2
          exact Rc.ret (v := some (.int (-1 : Int32))) rfl rfl
        · rw [if_neg h27] at hs
          refine Rc.goL mt_1249 0 (f2 := (if r10 = 0 then 87 else 41, [.ref 280, .int x1, .int x2, .int x3, .int x4, .int x5, .int x6, .int x7], [], gm M11)) (b := true) rfl rfl ?_
          rw [if_neg h27]
          refine Rc.goL mt_1249 2 (f2 := (47, [.ref 280, .int x1, .int x2, .int x3, .int x4, .int x5, .int x6, .int x7], [.int (999 : Int32), .int (0 : Int32), .int x5], gm M11)) (b := true) rfl rfl ?_
          obtain ⟨r13, M14, he15, hs⟩ := ob_some hs
          refine Rc.callS (i := 195) (mid' := 1201) (av := [.int x5, .int (0 : Int32), .int (999 : Int32)]) (rest := []) (v := some (.int r13)) (M1 := gm M14) rfl (Or.inl rfl) rfl cw_1201 rfl (Nat.le_of_ble_eq_true rfl) (qmd_in_ok _ (by omega) he15) ?_
          by_cases h26 : r13 = 0
          · rw [if_pos h26] at hs
            refine Rc.goL mt_1249 0 (f2 := (if r13 = 0 then 87 else 53, [.ref 280, .int x1, .int x2, .int x3, .int x4, .int x5, .int x6, .int x7], [], gm M14)) (b := true) rfl rfl ?_
            rw [if_pos h26]
            refine Rc.goL mt_1249 0 (f2 := (88, [.ref 280, .int x1, .int x2, .int x3, .int x4, .int x5, .int x6, .int x7], [.int (-1 : Int32)], gm M14)) (b := true) rfl rfl ?_
            obtain ⟨e1, e2⟩ := some_p hs; subst e1; subst e2
            exact Rc.ret (v := some (.int (-1 : Int32))) rfl rfl
          · rw [if_neg h26] at hs
            refine Rc.goL mt_1249 0 (f2 := (if r13 = 0 then 87 else 53, [.ref 280, .int x1, .int x2, .int x3, .int x4, .int x5, .int x6, .int x7], [], gm M14)) (b := true) rfl rfl ?_
            rw [if_neg h26]
            refine Rc.goL mt_1249 2 (f2 := (59, [.ref 280, .int x1, .int x2, .int x3, .int x4, .int x5, .int x6, .int x7], [.int (9999 : Int32), .int (0 : Int32), .int x6], gm M14)) (b := true) rfl rfl ?_
            obtain ⟨r16, M17, he18, hs⟩ := ob_some hs
            refine Rc.callS (i := 195) (mid' := 1201) (av := [.int x6, .int (0 : Int32), .int (9999 : Int32)]) (rest := []) (v := some (.int r16)) (M1 := gm M17) rfl (Or.inl rfl) rfl cw_1201 rfl (Nat.le_of_ble_eq_true rfl) (qmd_in_ok _ (by omega) he18) ?_
            by_cases h25 : r16 = 0
            · rw [if_pos h25] at hs
              refine Rc.goL mt_1249 0 (f2 := (if r16 = 0 then 87 else 65, [.ref 280, .int x1, .int x2, .int x3, .int x4, .int x5, .int x6, .int x7], [], gm M17)) (b := true) rfl rfl ?_
              rw [if_pos h25]
              refine Rc.goL mt_1249 0 (f2 := (88, [.ref 280, .int x1, .int x2, .int x3, .int x4, .int x5, .int x6, .int x7], [.int (-1 : Int32)], gm M17)) (b := true) rfl rfl ?_
              obtain ⟨e1, e2⟩ := some_p hs; subst e1; subst e2
              exact Rc.ret (v := some (.int (-1 : Int32))) rfl rfl
            · rw [if_neg h25] at hs
              refine Rc.goL mt_1249 0 (f2 := (if r16 = 0 then 87 else 65, [.ref 280, .int x1, .int x2, .int x3, .int x4, .int x5, .int x6, .int x7], [], gm M17)) (b := true) rfl rfl ?_
              rw [if_neg h25]
              refine Rc.goL mt_1249 2 (f2 := (71, [.ref 280, .int x1, .int x2, .int x3, .int x4, .int x5, .int x6, .int x7], [.int (9999 : Int32), .int (0 : Int32), .int x7], gm M17)) (b := true) rfl rfl ?_
              obtain ⟨r19, M20, he21, hs⟩ := ob_some hs
              refine Rc.callS (i := 195) (mid' := 1201) (av := [.int x7, .int (0 : Int32), .int (9999 : Int32)]) (rest := []) (v := some (.int r19)) (M1 := gm M20) rfl (Or.inl rfl) rfl cw_1201 rfl (Nat.le_of_ble_eq_true rfl) (qmd_in_ok _ (by omega) he21) ?_
              by_cases h24 : r19 = 0
              · rw [if_pos h24] at hs
                refine Rc.goL mt_1249 0 (f2 := (if r19 = 0 then 87 else 77, [.ref 280, .int x1, .int x2, .int x3, .int x4, .int x5, .int x6, .int x7], [], gm M20)) (b := true) rfl rfl ?_
                rw [if_pos h24]
                refine Rc.goL mt_1249 0 (f2 := (88, [.ref 280, .int x1, .int x2, .int x3, .int x4, .int x5, .int x6, .int x7], [.int (-1 : Int32)], gm M20)) (b := true) rfl rfl ?_
                obtain ⟨e1, e2⟩ := some_p hs; subst e1; subst e2
                exact Rc.ret (v := some (.int (-1 : Int32))) rfl rfl
              · rw [if_neg h24] at hs
                refine Rc.goL mt_1249 0 (f2 := (if r19 = 0 then 87 else 77, [.ref 280, .int x1, .int x2, .int x3, .int x4, .int x5, .int x6, .int x7], [], gm M20)) (b := true) rfl rfl ?_
                rw [if_neg h24]
                by_cases h23 : (M20.1 280 43) = (300 : Int32)
                · rw [if_pos h23] at hs
                  refine Rc.goL mt_1249 3 (f2 := (if (M20.1 280 43) = (300 : Int32) then 87 else 89, [.ref 280, .int x1, .int x2, .int x3, .int x4, .int x5, .int x6, .int x7], [], gm M20)) (b := true) rfl rfl ?_
                  rw [if_pos h23]
                  refine Rc.goL mt_1249 0 (f2 := (88, [.ref 280, .int x1, .int x2, .int x3, .int x4, .int x5, .int x6, .int x7], [.int (-1 : Int32)], gm M20)) (b := true) rfl rfl ?_
                  obtain ⟨e1, e2⟩ := some_p hs; subst e1; subst e2
                  exact Rc.ret (v := some (.int (-1 : Int32))) rfl rfl
                · rw [if_neg h23] at hs
                  refine Rc.goL mt_1249 3 (f2 := (if (M20.1 280 43) = (300 : Int32) then 87 else 89, [.ref 280, .int x1, .int x2, .int x3, .int x4, .int x5, .int x6, .int x7], [], gm M20)) (b := true) rfl rfl ?_
                  rw [if_neg h23]
                  obtain ⟨hb22, hs⟩ := ck_some hs
                  obtain ⟨hb22_0, hb22⟩ := and_t hb22
                  obtain ⟨hb22_1, hb22⟩ := and_t hb22
                  obtain ⟨hb22_2, hb22⟩ := and_t hb22
                  obtain ⟨hb22_3, hb22⟩ := and_t hb22
                  obtain ⟨hb22_4, hb22⟩ := and_t hb22
                  obtain ⟨hb22_5, hb22⟩ := and_t hb22
                  obtain ⟨hb22_6, hb22⟩ := and_t hb22
                  obtain ⟨hb22_7, hb22⟩ := and_t hb22
                  refine Rc.goL mt_1249 5 (f2 := (99, [.ref 280, .int x1, .int x2, .int x3, .int x4, .int x5, .int x6, .int x7], [], gm (wI M20 310 (Int32.toNatClampNeg (M20.1 280 43)) x1))) (b := (ib 300 (M20.1 280 43) && true)) rfl (and_i hb22_0 rfl) ?_
                  refine Rc.goL mt_1249 5 (f2 := (109, [.ref 280, .int x1, .int x2, .int x3, .int x4, .int x5, .int x6, .int x7], [], gm (wI (wI M20 310 (Int32.toNatClampNeg (M20.1 280 43)) x1) 311 (Int32.toNatClampNeg (M20.1 280 43)) x2))) (b := (ib 300 (M20.1 280 43) && true)) rfl (and_i hb22_1 rfl) ?_
                  refine Rc.goL mt_1249 5 (f2 := (119, [.ref 280, .int x1, .int x2, .int x3, .int x4, .int x5, .int x6, .int x7], [], gm (wI (wI (wI M20 310 (Int32.toNatClampNeg (M20.1 280 43)) x1) 311 (Int32.toNatClampNeg (M20.1 280 43)) x2) 312 (Int32.toNatClampNeg (M20.1 280 43)) x3))) (b := (ib 300 (M20.1 280 43) && true)) rfl (and_i hb22_2 rfl) ?_
                  refine Rc.goL mt_1249 5 (f2 := (130, [.ref 280, .int x1, .int x2, .int x3, .int x4, .int x5, .int x6, .int x7], [], gm (wI (wI (wI (wI M20 310 (Int32.toNatClampNeg (M20.1 280 43)) x1) 311 (Int32.toNatClampNeg (M20.1 280 43)) x2) 312 (Int32.toNatClampNeg (M20.1 280 43)) x3) 313 (Int32.toNatClampNeg (M20.1 280 43)) x4))) (b := (ib 300 (M20.1 280 43) && true)) rfl (and_i hb22_3 rfl) ?_
                  refine Rc.goL mt_1249 5 (f2 := (141, [.ref 280, .int x1, .int x2, .int x3, .int x4, .int x5, .int x6, .int x7], [], gm (wI (wI (wI (wI (wI M20 310 (Int32.toNatClampNeg (M20.1 280 43)) x1) 311 (Int32.toNatClampNeg (M20.1 280 43)) x2) 312 (Int32.toNatClampNeg (M20.1 280 43)) x3) 313 (Int32.toNatClampNeg (M20.1 280 43)) x4) 314 (Int32.toNatClampNeg (M20.1 280 43)) x5))) (b := (ib 300 (M20.1 280 43) && true)) rfl (and_i hb22_4 rfl) ?_
                  refine Rc.goL mt_1249 5 (f2 := (152, [.ref 280, .int x1, .int x2, .int x3, .int x4, .int x5, .int x6, .int x7], [], gm (wI (wI (wI (wI (wI (wI M20 310 (Int32.toNatClampNeg (M20.1 280 43)) x1) 311 (Int32.toNatClampNeg (M20.1 280 43)) x2) 312 (Int32.toNatClampNeg (M20.1 280 43)) x3) 313 (Int32.toNatClampNeg (M20.1 280 43)) x4) 314 (Int32.toNatClampNeg (M20.1 280 43)) x5) 315 (Int32.toNatClampNeg (M20.1 280 43)) x6))) (b := (ib 300 (M20.1 280 43) && true)) rfl (and_i hb22_5 rfl) ?_
                  refine Rc.goL mt_1249 5 (f2 := (163, [.ref 280, .int x1, .int x2, .int x3, .int x4, .int x5, .int x6, .int x7], [], gm (wI (wI (wI (wI (wI (wI (wI M20 310 (Int32.toNatClampNeg (M20.1 280 43)) x1) 311 (Int32.toNatClampNeg (M20.1 280 43)) x2) 312 (Int32.toNatClampNeg (M20.1 280 43)) x3) 313 (Int32.toNatClampNeg (M20.1 280 43)) x4) 314 (Int32.toNatClampNeg (M20.1 280 43)) x5) 315 (Int32.toNatClampNeg (M20.1 280 43)) x6) 316 (Int32.toNatClampNeg (M20.1 280 43)) x7))) (b := (ib 300 (M20.1 280 43) && true)) rfl (and_i hb22_6 rfl) ?_
                  refine Rc.goL mt_1249 6 (f2 := (176, [.ref 280, .int x1, .int x2, .int x3, .int x4, .int x5, .int x6, .int x7], [], gm (wI (wI (wI (wI (wI (wI (wI (wI M20 310 (Int32.toNatClampNeg (M20.1 280 43)) x1) 311 (Int32.toNatClampNeg (M20.1 280 43)) x2) 312 (Int32.toNatClampNeg (M20.1 280 43)) x3) 313 (Int32.toNatClampNeg (M20.1 280 43)) x4) 314 (Int32.toNatClampNeg (M20.1 280 43)) x5) 315 (Int32.toNatClampNeg (M20.1 280 43)) x6) 316 (Int32.toNatClampNeg (M20.1 280 43)) x7) 317 (Int32.toNatClampNeg (M20.1 280 43)) (M20.1 280 0)))) (b := (ib 300 (M20.1 280 43) && true)) rfl (and_i hb22_7 rfl) ?_
                  refine Rc.goL mt_1249 5 (f2 := (186, [.ref 280, .int x1, .int x2, .int x3, .int x4, .int x5, .int x6, .int x7], [], gm (wI (wI (wI (wI (wI (wI (wI (wI (wI M20 310 (Int32.toNatClampNeg (M20.1 280 43)) x1) 311 (Int32.toNatClampNeg (M20.1 280 43)) x2) 312 (Int32.toNatClampNeg (M20.1 280 43)) x3) 313 (Int32.toNatClampNeg (M20.1 280 43)) x4) 314 (Int32.toNatClampNeg (M20.1 280 43)) x5) 315 (Int32.toNatClampNeg (M20.1 280 43)) x6) 316 (Int32.toNatClampNeg (M20.1 280 43)) x7) 317 (Int32.toNatClampNeg (M20.1 280 43)) (M20.1 280 0)) 280 43 ((M20.1 280 43) + (1 : Int32))))) (b := true) rfl rfl ?_
                  refine Rc.goL mt_1249 3 (f2 := (192, [.ref 280, .int x1, .int x2, .int x3, .int x4, .int x5, .int x6, .int x7], [.int (((M20.1 280 43) + (1 : Int32)) - (1 : Int32))], gm (wI (wI (wI (wI (wI (wI (wI (wI (wI M20 310 (Int32.toNatClampNeg (M20.1 280 43)) x1) 311 (Int32.toNatClampNeg (M20.1 280 43)) x2) 312 (Int32.toNatClampNeg (M20.1 280 43)) x3) 313 (Int32.toNatClampNeg (M20.1 280 43)) x4) 314 (Int32.toNatClampNeg (M20.1 280 43)) x5) 315 (Int32.toNatClampNeg (M20.1 280 43)) x6) 316 (Int32.toNatClampNeg (M20.1 280 43)) x7) 317 (Int32.toNatClampNeg (M20.1 280 43)) (M20.1 280 0)) 280 43 ((M20.1 280 43) + (1 : Int32))))) (b := true) rfl rfl ?_
                  obtain ⟨e1, e2⟩ := some_p hs; subst e1; subst e2
                  exact Rc.ret (v := some (.int (((M20.1 280 43) + (1 : Int32)) - (1 : Int32)))) rfl rfl
def qmd_idleAnew (x1 : Int32) (x2 : Int32) (M : SM) : Option (Int32 × SM) :=
  ob (qmd_hirerOf x1 x2 M) (fun r1 M2 =>
  if r1 = (-1 : Int32) then
  (some ((0 : Int32), M2)) else
  (if 0 < x2 then
    (ob (qmd_hirerOf x1 (x2 - (1 : Int32)) M2) (fun r4 M5 =>
      ob (qmd_hirerOf x1 x2 M5) (fun r7 M8 =>
      if r4 = r7 then
      (ck (ib 520 (x2 - (1 : Int32)) && true) (
        some (((M8.1 319 (Int32.toNatClampNeg (x2 - (1 : Int32)))) + (1 : Int32)), M8))) else
      (some ((1 : Int32), M8))))) else
    (some ((1 : Int32), M2))))
theorem mt_1251 : MT 1251 K_1251 LN_12 := ⟨rfl, rfl, by decide +kernel⟩
theorem okm_1251 : OKm 1251 := ⟨⟨vE_1251, okL_12, by decide +kernel⟩, by decide +kernel, by decide +kernel, by decide +kernel⟩
set_option maxRecDepth 20000 in
theorem qmd_idleAnew_ok (d : Nat) (hd : 2 ≤ d) {x1 : Int32} {x2 : Int32} {M : SM} {r : Int32} {Mz : SM} (hs : qmd_idleAnew x1 x2 M = some (r, Mz)) : Ex d 1251 [.ref 280, .int x1, .int x2] (gm M) (some (.int r), gm Mz) := by
  obtain ⟨d, rfl⟩ : ∃ d0, d = d0 + 1 := ⟨d - 1, by omega⟩
  refine Ex.of okm_1251 (by omega) (Nat.le_of_ble_eq_true rfl) ?_
  show Rc (d + 1) 1251 (0, [.ref 280, .int x1, .int x2], [], gm M) _
  unfold qmd_idleAnew at hs
  refine Rc.goL mt_1251 2 (f2 := (3, [.ref 280, .int x1, .int x2], [.int x2, .int x1, .ref 280], gm M)) (b := true) rfl rfl ?_
  obtain ⟨r1, M2, he3, hs⟩ := ob_some hs
  refine Rc.callV (i := 208) (mid' := 1210) (av := [.int x1, .int x2]) (rest := []) (v := some (.int r1)) (M1 := gm M2) (a := 280) rfl rfl rfl cw_1210 rfl (Nat.le_of_ble_eq_true rfl) rfl (Nat.le_of_ble_eq_true rfl) (qmd_hirerOf_ok _ (by omega) he3) ?_
  by_cases h13 : r1 = (-1 : Int32)
  · rw [if_pos h13] at hs
    refine Rc.goL mt_1251 1 (f2 := (if r1 = (-1 : Int32) then 10 else 12, [.ref 280, .int x1, .int x2], [], gm M2)) (b := true) rfl rfl ?_
    rw [if_pos h13]
    refine Rc.goL mt_1251 0 (f2 := (11, [.ref 280, .int x1, .int x2], [.int (0 : Int32)], gm M2)) (b := true) rfl rfl ?_
    obtain ⟨e1, e2⟩ := some_p hs; subst e1; subst e2
    exact Rc.ret (v := some (.int (0 : Int32))) rfl rfl
  · rw [if_neg h13] at hs
    refine Rc.goL mt_1251 1 (f2 := (if r1 = (-1 : Int32) then 10 else 12, [.ref 280, .int x1, .int x2], [], gm M2)) (b := true) rfl rfl ?_
    rw [if_neg h13]
    by_cases h12 : 0 < x2
    · rw [if_pos h12] at hs
      refine Rc.goL mt_1251 1 (f2 := (if 0 < x2 then 16 else 46, [.ref 280, .int x1, .int x2], [], gm M2)) (b := true) rfl rfl ?_
      rw [if_pos h12]
      refine Rc.goL mt_1251 4 (f2 := (21, [.ref 280, .int x1, .int x2], [.int (x2 - (1 : Int32)), .int x1, .ref 280], gm M2)) (b := true) rfl rfl ?_
      obtain ⟨r4, M5, he6, hs⟩ := ob_some hs
      refine Rc.callV (i := 208) (mid' := 1210) (av := [.int x1, .int (x2 - (1 : Int32))]) (rest := []) (v := some (.int r4)) (M1 := gm M5) (a := 280) rfl rfl rfl cw_1210 rfl (Nat.le_of_ble_eq_true rfl) rfl (Nat.le_of_ble_eq_true rfl) (qmd_hirerOf_ok _ (by omega) he6) ?_
      refine Rc.goL mt_1251 2 (f2 := (27, [.ref 280, .int x1, .int x2], [.int x2, .int x1, .ref 280, .int r4], gm M5)) (b := true) rfl rfl ?_
      obtain ⟨r7, M8, he9, hs⟩ := ob_some hs
      refine Rc.callV (i := 208) (mid' := 1210) (av := [.int x1, .int x2]) (rest := [.int r4]) (v := some (.int r7)) (M1 := gm M8) (a := 280) rfl rfl rfl cw_1210 rfl (Nat.le_of_ble_eq_true rfl) rfl (Nat.le_of_ble_eq_true rfl) (qmd_hirerOf_ok _ (by omega) he9) ?_
      by_cases h11 : r4 = r7
      · rw [if_pos h11] at hs
        refine Rc.goL mt_1251 0 (f2 := (if r4 = r7 then 33 else 46, [.ref 280, .int x1, .int x2], [], gm M8)) (b := true) rfl rfl ?_
        rw [if_pos h11]
        obtain ⟨hb10, hs⟩ := ck_some hs
        obtain ⟨hb10_0, hb10⟩ := and_t hb10
        refine Rc.goL mt_1251 6 (f2 := (42, [.ref 280, .int x1, .int x2], [.int (1 : Int32), .int (M8.1 319 (Int32.toNatClampNeg (x2 - (1 : Int32))))], gm M8)) (b := (ib 520 (x2 - (1 : Int32)) && true)) rfl (and_i hb10_0 rfl) ?_
        refine Rc.goL mt_1251 1 (f2 := (47, [.ref 280, .int x1, .int x2], [.int ((M8.1 319 (Int32.toNatClampNeg (x2 - (1 : Int32)))) + (1 : Int32))], gm M8)) (b := true) rfl rfl ?_
        obtain ⟨e1, e2⟩ := some_p hs; subst e1; subst e2
        exact Rc.ret (v := some (.int ((M8.1 319 (Int32.toNatClampNeg (x2 - (1 : Int32)))) + (1 : Int32)))) rfl rfl
      · rw [if_neg h11] at hs
        refine Rc.goL mt_1251 0 (f2 := (if r4 = r7 then 33 else 46, [.ref 280, .int x1, .int x2], [], gm M8)) (b := true) rfl rfl ?_
        rw [if_neg h11]
        refine Rc.goL mt_1251 0 (f2 := (47, [.ref 280, .int x1, .int x2], [.int (1 : Int32)], gm M8)) (b := true) rfl rfl ?_
        obtain ⟨e1, e2⟩ := some_p hs; subst e1; subst e2
        exact Rc.ret (v := some (.int (1 : Int32))) rfl rfl
    · rw [if_neg h12] at hs
      refine Rc.goL mt_1251 1 (f2 := (if 0 < x2 then 16 else 46, [.ref 280, .int x1, .int x2], [], gm M2)) (b := true) rfl rfl ?_
      rw [if_neg h12]
      refine Rc.goL mt_1251 0 (f2 := (47, [.ref 280, .int x1, .int x2], [.int (1 : Int32)], gm M2)) (b := true) rfl rfl ?_
      obtain ⟨e1, e2⟩ := some_p hs; subst e1; subst e2
      exact Rc.ret (v := some (.int (1 : Int32))) rfl rfl
def qmd_goesThrough_L2 (k22 : Int32 → Int32 → SM → Option (Unit × SM)) : Nat → Int32 → Int32 → Int32 → SM → Option (Unit × SM)
  | 0, _, _, _, _ => none
  | n + 1, x1, x2, x3, M =>
    if x3 < (520 : Int32) then
    (ck (ib 520 x3 && true) (
      qmd_goesThrough_L2 k22 n x1 x2 (x3 + (1 : Int32)) (wI M 318 (Int32.toNatClampNeg x3) (-1 : Int32)))) else
    (k22 x1 x2 M)
def qmd_goesThrough_L24 (k70 : Int32 → SM → Option (Unit × SM)) : Nat → Int32 → Int32 → Int32 → SM → Option (Unit × SM)
  | 0, _, _, _, _ => none
  | n + 1, x1, x2, x3, M =>
    if x3 < (M.1 280 43) then
    (ck (ib 300 x3 && true) (
      if (M.1 310 (Int32.toNatClampNeg x3)) = x1 then
      (ck (ib 300 x3 && true) (
        if x2 < (M.1 317 (Int32.toNatClampNeg x3)) then
        (qmd_goesThrough_L24 k70 n x1 x2 (x3 + (1 : Int32)) M) else
        (ck (ib 300 x3 && (ib 520 (M.1 311 (Int32.toNatClampNeg x3)) && true)) (
          qmd_goesThrough_L24 k70 n x1 x2 (x3 + (1 : Int32)) (wI M 318 (Int32.toNatClampNeg (M.1 311 (Int32.toNatClampNeg x3))) x3))))) else
      (qmd_goesThrough_L24 k70 n x1 x2 (x3 + (1 : Int32)) M))) else
    (k70 x1 M)
def qmd_goesThrough_L72 : Nat → Int32 → Int32 → SM → Option (Unit × SM)
  | 0, _, _, _ => none
  | n + 1, x1, x3, M =>
    if x3 < (520 : Int32) then
    (ck (ib 520 x3 && true) (
      jn (fun (x1_15 : Int32) (x3_16 : Int32) (t17 : Int32) (M18 : SM) =>
        if t17 = 0 then
          (ob (qmd_idleAnew x1_15 x3_16 M18) (fun r19 M20 =>
            ck (ib 520 x3_16 && true) (
            qmd_goesThrough_L72 n x1_15 (x3_16 + (1 : Int32)) (wI M20 319 (Int32.toNatClampNeg x3_16) r19)))) else
          (ck (ib 520 x3_16 && true) (
            qmd_goesThrough_L72 n x1_15 (x3_16 + (1 : Int32)) (wI M18 319 (Int32.toNatClampNeg x3_16) (0 : Int32))))) (fun j25 =>
      jn (fun (x1_26 : Int32) (x3_27 : Int32) (M28 : SM) =>
        j25 x1_26 x3_27 (0 : Int32) M28) (fun j29 =>
      if (M.1 318 (Int32.toNatClampNeg x3)) = (-1 : Int32) then
      (j29 x1 x3 M) else
      (ck (ib 520 x3 && (ib 300 (M.1 318 (Int32.toNatClampNeg x3)) && true)) (
        if 0 < (M.1 313 (Int32.toNatClampNeg (M.1 318 (Int32.toNatClampNeg x3)))) then
        (j25 x1 x3 (1 : Int32) M) else
        (j29 x1 x3 M))))))) else
    (some ((), M))
def qmd_goesThrough (x1 : Int32) (x2 : Int32) (M : SM) : Option (Unit × SM) :=
  qmd_goesThrough_L2 (fun y1_3 y2_4 M5 =>
  qmd_goesThrough_L24 (fun y1_12 M13 =>
    qmd_goesThrough_L72 FU y1_12 (0 : Int32) M13) FU y1_3 y2_4 (0 : Int32) M5) FU x1 x2 (0 : Int32) M
theorem mt_1250 : MT 1250 K_1250 LN_12 := ⟨rfl, rfl, by decide +kernel⟩
theorem okm_1250 : OKm 1250 := ⟨⟨vE_1250, okL_12, by decide +kernel⟩, by decide +kernel, by decide +kernel, by decide +kernel⟩
set_option maxRecDepth 20000 in
theorem qmd_goesThrough_L2_ok (d : Nat) (hd : 3 ≤ d + 1) (k22 : Int32 → Int32 → SM → Option (Unit × SM)) (hk22 : ∀ (y1 : Int32) (y2 : Int32) (M : SM) (r : Unit) (Mz : SM), k22 y1 y2 M = some (r, Mz) → Rc (d + 1) 1250 (22, [.ref 280, .int y1, .int y2, UU, UU], [], gm M) (none, gm Mz)) : ∀ (n : Nat) (x1 : Int32) (x2 : Int32) (x3 : Int32) (M : SM) (r : Unit) (Mz : SM), qmd_goesThrough_L2 k22 n x1 x2 x3 M = some (r, Mz) → Rc (d + 1) 1250 (2, [.ref 280, .int x1, .int x2, .int x3, UU], [], gm M) (none, gm Mz) := by
  intro n
  induction n with
  | zero => intro x1 x2 x3 M r Mz hs; cases hs
  | succ n ih =>
    intro x1 x2 x3 M r Mz hs
    rw [qmd_goesThrough_L2] at hs
    by_cases h2 : x3 < (520 : Int32)
    · rw [if_pos h2] at hs
      refine Rc.goL mt_1250 2 (f2 := (if x3 < (520 : Int32) then 9 else 22, [.ref 280, .int x1, .int x2, .int x3, UU], [], gm M)) (b := true) rfl rfl ?_
      rw [if_pos h2]
      obtain ⟨hb1, hs⟩ := ck_some hs
      obtain ⟨hb1_0, hb1⟩ := and_t hb1
      refine Rc.goL mt_1250 4 (f2 := (16, [.ref 280, .int x1, .int x2, .int x3, UU], [], gm (wI M 318 (Int32.toNatClampNeg x3) (-1 : Int32)))) (b := (ib 520 x3 && true)) rfl (and_i hb1_0 rfl) ?_
      refine Rc.goL mt_1250 1 (f2 := (2, [.ref 280, .int x1, .int x2, .int (x3 + (1 : Int32)), UU], [], gm (wI M 318 (Int32.toNatClampNeg x3) (-1 : Int32)))) (b := true) rfl rfl ?_
      refine Rc.less (ls2 := [.ref 280, .int x1, .int x2, .int (x3 + (1 : Int32)), UU]) (by refine ⟨Or.inr rfl, Or.inr rfl, Or.inr rfl, Or.inr rfl, Or.inl rfl, trivial⟩) ?_
      exact ih x1 x2 (x3 + (1 : Int32)) _ _ _ hs
    · rw [if_neg h2] at hs
      refine Rc.goL mt_1250 2 (f2 := (if x3 < (520 : Int32) then 9 else 22, [.ref 280, .int x1, .int x2, .int x3, UU], [], gm M)) (b := true) rfl rfl ?_
      rw [if_neg h2]
      refine Rc.less (ls2 := [.ref 280, .int x1, .int x2, UU, UU]) (by refine ⟨Or.inr rfl, Or.inr rfl, Or.inr rfl, Or.inl rfl, Or.inl rfl, trivial⟩) ?_
      exact hk22 x1 x2 _ _ _ hs
set_option maxRecDepth 20000 in
theorem qmd_goesThrough_L24_ok (d : Nat) (hd : 3 ≤ d + 1) (k70 : Int32 → SM → Option (Unit × SM)) (hk70 : ∀ (y1 : Int32) (M : SM) (r : Unit) (Mz : SM), k70 y1 M = some (r, Mz) → Rc (d + 1) 1250 (70, [.ref 280, .int y1, UU, UU, UU], [], gm M) (none, gm Mz)) : ∀ (n : Nat) (x1 : Int32) (x2 : Int32) (x3 : Int32) (M : SM) (r : Unit) (Mz : SM), qmd_goesThrough_L24 k70 n x1 x2 x3 M = some (r, Mz) → Rc (d + 1) 1250 (24, [.ref 280, .int x1, .int x2, .int x3, UU], [], gm M) (none, gm Mz) := by
  intro n
  induction n with
  | zero => intro x1 x2 x3 M r Mz hs; cases hs
  | succ n ih =>
    intro x1 x2 x3 M r Mz hs
    rw [qmd_goesThrough_L24] at hs
    by_cases h11 : x3 < (M.1 280 43)
    · rw [if_pos h11] at hs
      refine Rc.goL mt_1250 3 (f2 := (if x3 < (M.1 280 43) then 32 else 70, [.ref 280, .int x1, .int x2, .int x3, UU], [], gm M)) (b := true) rfl rfl ?_
      rw [if_pos h11]
      obtain ⟨hb6, hs⟩ := ck_some hs
      by_cases h10 : (M.1 310 (Int32.toNatClampNeg x3)) = x1
      · rw [if_pos h10] at hs
        refine Rc.goL mt_1250 5 (f2 := (if (M.1 310 (Int32.toNatClampNeg x3)) = x1 then 42 else 64, [.ref 280, .int x1, .int x2, .int x3, UU], [], gm M)) (b := (ib 300 x3 && true)) rfl hb6 ?_
        rw [if_pos h10]
        obtain ⟨hb7, hs⟩ := ck_some hs
        by_cases h9 : x2 < (M.1 317 (Int32.toNatClampNeg x3))
        · rw [if_pos h9] at hs
          refine Rc.goL mt_1250 5 (f2 := (if x2 < (M.1 317 (Int32.toNatClampNeg x3)) then 64 else 52, [.ref 280, .int x1, .int x2, .int x3, UU], [], gm M)) (b := (ib 300 x3 && true)) rfl hb7 ?_
          rw [if_pos h9]
          refine Rc.goL mt_1250 1 (f2 := (24, [.ref 280, .int x1, .int x2, .int (x3 + (1 : Int32)), UU], [], gm M)) (b := true) rfl rfl ?_
          refine Rc.less (ls2 := [.ref 280, .int x1, .int x2, .int (x3 + (1 : Int32)), UU]) (by refine ⟨Or.inr rfl, Or.inr rfl, Or.inr rfl, Or.inr rfl, Or.inl rfl, trivial⟩) ?_
          exact ih x1 x2 (x3 + (1 : Int32)) _ _ _ hs
        · rw [if_neg h9] at hs
          refine Rc.goL mt_1250 5 (f2 := (if x2 < (M.1 317 (Int32.toNatClampNeg x3)) then 64 else 52, [.ref 280, .int x1, .int x2, .int x3, UU], [], gm M)) (b := (ib 300 x3 && true)) rfl hb7 ?_
          rw [if_neg h9]
          obtain ⟨hb8, hs⟩ := ck_some hs
          obtain ⟨hb8_0, hb8⟩ := and_t hb8
          obtain ⟨hb8_1, hb8⟩ := and_t hb8
          refine Rc.goL mt_1250 6 (f2 := (63, [.ref 280, .int x1, .int x2, .int x3, UU], [.int x3, .int (M.1 311 (Int32.toNatClampNeg x3)), .ref 318], gm M)) (b := (ib 300 x3 && true)) rfl (and_i hb8_0 rfl) ?_
          refine Rc.goL mt_1250 0 (f2 := (64, [.ref 280, .int x1, .int x2, .int x3, UU], [], gm (wI M 318 (Int32.toNatClampNeg (M.1 311 (Int32.toNatClampNeg x3))) x3))) (b := (ib 520 (M.1 311 (Int32.toNatClampNeg x3)) && true)) rfl (and_i hb8_1 rfl) ?_
          refine Rc.goL mt_1250 1 (f2 := (24, [.ref 280, .int x1, .int x2, .int (x3 + (1 : Int32)), UU], [], gm (wI M 318 (Int32.toNatClampNeg (M.1 311 (Int32.toNatClampNeg x3))) x3))) (b := true) rfl rfl ?_
          refine Rc.less (ls2 := [.ref 280, .int x1, .int x2, .int (x3 + (1 : Int32)), UU]) (by refine ⟨Or.inr rfl, Or.inr rfl, Or.inr rfl, Or.inr rfl, Or.inl rfl, trivial⟩) ?_
          exact ih x1 x2 (x3 + (1 : Int32)) _ _ _ hs
      · rw [if_neg h10] at hs
        refine Rc.goL mt_1250 5 (f2 := (if (M.1 310 (Int32.toNatClampNeg x3)) = x1 then 42 else 64, [.ref 280, .int x1, .int x2, .int x3, UU], [], gm M)) (b := (ib 300 x3 && true)) rfl hb6 ?_
        rw [if_neg h10]
        refine Rc.goL mt_1250 1 (f2 := (24, [.ref 280, .int x1, .int x2, .int (x3 + (1 : Int32)), UU], [], gm M)) (b := true) rfl rfl ?_
        refine Rc.less (ls2 := [.ref 280, .int x1, .int x2, .int (x3 + (1 : Int32)), UU]) (by refine ⟨Or.inr rfl, Or.inr rfl, Or.inr rfl, Or.inr rfl, Or.inl rfl, trivial⟩) ?_
        exact ih x1 x2 (x3 + (1 : Int32)) _ _ _ hs
    · rw [if_neg h11] at hs
      refine Rc.goL mt_1250 3 (f2 := (if x3 < (M.1 280 43) then 32 else 70, [.ref 280, .int x1, .int x2, .int x3, UU], [], gm M)) (b := true) rfl rfl ?_
      rw [if_neg h11]
      refine Rc.less (ls2 := [.ref 280, .int x1, UU, UU, UU]) (by refine ⟨Or.inr rfl, Or.inr rfl, Or.inl rfl, Or.inl rfl, Or.inl rfl, trivial⟩) ?_
      exact hk70 x1 _ _ _ hs
set_option maxRecDepth 20000 in
theorem qmd_goesThrough_L72_ok (d : Nat) (hd : 3 ≤ d + 1) : ∀ (n : Nat) (x1 : Int32) (x3 : Int32) (M : SM) (r : Unit) (Mz : SM), qmd_goesThrough_L72 n x1 x3 M = some (r, Mz) → Rc (d + 1) 1250 (72, [.ref 280, .int x1, UU, .int x3, UU], [], gm M) (none, gm Mz) := by
  intro n
  induction n with
  | zero => intro x1 x3 M r Mz hs; cases hs
  | succ n ih =>
    intro x1 x3 M r Mz hs
    rw [qmd_goesThrough_L72] at hs
    by_cases h33 : x3 < (520 : Int32)
    · rw [if_pos h33] at hs
      refine Rc.goL mt_1250 2 (f2 := (if x3 < (520 : Int32) then 79 else 137, [.ref 280, .int x1, UU, .int x3, UU], [], gm M)) (b := true) rfl rfl ?_
      rw [if_pos h33]
      obtain ⟨hb14, hs⟩ := ck_some hs
      refine jn_e (P := fun (j : Int32 → Int32 → Int32 → SM → Option (Unit × SM)) => ∀ (x1_15 : Int32) (x3_16 : Int32) (t17 : Int32) (M18 : SM) (r : Unit) (Mz : SM), j x1_15 x3_16 t17 M18 = some (r, Mz) → Rc (d + 1) 1250 (108, [.ref 280, .int x1_15, UU, .int x3_16, UU], [.int t17], gm M18) (none, gm Mz)) hs ?_ (fun j25 Hj25 hs => ?_)
      · intro x1_15 x3_16 t17 M18 r Mz hs
        try dsimp only at hs
        by_cases h24 : t17 = 0
        · rw [if_pos h24] at hs
          refine Rc.goL mt_1250 5 (f2 := (if t17 = 0 then 124 else 120, [.ref 280, .int x1_15, UU, .int x3_16, .int t17], [.int x3_16, .ref 319], gm M18)) (b := true) rfl rfl ?_
          rw [if_pos h24]
          refine Rc.goL mt_1250 2 (f2 := (127, [.ref 280, .int x1_15, UU, .int x3_16, .int t17], [.int x3_16, .int x1_15, .ref 280, .int x3_16, .ref 319], gm M18)) (b := true) rfl rfl ?_
          obtain ⟨r19, M20, he21, hs⟩ := ob_some hs
          refine Rc.callV (i := 351) (mid' := 1251) (av := [.int x1_15, .int x3_16]) (rest := [.int x3_16, .ref 319]) (v := some (.int r19)) (M1 := gm M20) (a := 280) rfl rfl rfl cw_1251 rfl (Nat.le_of_ble_eq_true rfl) rfl (Nat.le_of_ble_eq_true rfl) (qmd_idleAnew_ok _ (by omega) he21) ?_
          obtain ⟨hb22, hs⟩ := ck_some hs
          obtain ⟨hb22_0, hb22⟩ := and_t hb22
          refine Rc.goL mt_1250 0 (f2 := (131, [.ref 280, .int x1_15, UU, .int x3_16, .int t17], [], gm (wI M20 319 (Int32.toNatClampNeg x3_16) r19))) (b := (ib 520 x3_16 && true)) rfl (and_i hb22_0 rfl) ?_
          refine Rc.goL mt_1250 1 (f2 := (72, [.ref 280, .int x1_15, UU, .int (x3_16 + (1 : Int32)), .int t17], [], gm (wI M20 319 (Int32.toNatClampNeg x3_16) r19))) (b := true) rfl rfl ?_
          refine Rc.less (ls2 := [.ref 280, .int x1_15, UU, .int (x3_16 + (1 : Int32)), UU]) (by refine ⟨Or.inr rfl, Or.inr rfl, Or.inl rfl, Or.inr rfl, Or.inl rfl, trivial⟩) ?_
          exact ih x1_15 (x3_16 + (1 : Int32)) _ _ _ hs
        · rw [if_neg h24] at hs
          refine Rc.goL mt_1250 5 (f2 := (if t17 = 0 then 124 else 120, [.ref 280, .int x1_15, UU, .int x3_16, .int t17], [.int x3_16, .ref 319], gm M18)) (b := true) rfl rfl ?_
          rw [if_neg h24]
          refine Rc.goL mt_1250 1 (f2 := (130, [.ref 280, .int x1_15, UU, .int x3_16, .int t17], [.int (0 : Int32), .int x3_16, .ref 319], gm M18)) (b := true) rfl rfl ?_
          obtain ⟨hb23, hs⟩ := ck_some hs
          obtain ⟨hb23_0, hb23⟩ := and_t hb23
          refine Rc.goL mt_1250 0 (f2 := (131, [.ref 280, .int x1_15, UU, .int x3_16, .int t17], [], gm (wI M18 319 (Int32.toNatClampNeg x3_16) (0 : Int32)))) (b := (ib 520 x3_16 && true)) rfl (and_i hb23_0 rfl) ?_
          refine Rc.goL mt_1250 1 (f2 := (72, [.ref 280, .int x1_15, UU, .int (x3_16 + (1 : Int32)), .int t17], [], gm (wI M18 319 (Int32.toNatClampNeg x3_16) (0 : Int32)))) (b := true) rfl rfl ?_
          refine Rc.less (ls2 := [.ref 280, .int x1_15, UU, .int (x3_16 + (1 : Int32)), UU]) (by refine ⟨Or.inr rfl, Or.inr rfl, Or.inl rfl, Or.inr rfl, Or.inl rfl, trivial⟩) ?_
          exact ih x1_15 (x3_16 + (1 : Int32)) _ _ _ hs
      refine jn_e (P := fun (j : Int32 → Int32 → SM → Option (Unit × SM)) => ∀ (x1_26 : Int32) (x3_27 : Int32) (M28 : SM) (r : Unit) (Mz : SM), j x1_26 x3_27 M28 = some (r, Mz) → Rc (d + 1) 1250 (107, [.ref 280, .int x1_26, UU, .int x3_27, UU], [], gm M28) (none, gm Mz)) hs ?_ (fun j29 Hj29 hs => ?_)
      · intro x1_26 x3_27 M28 r Mz hs
        try dsimp only at hs
        refine Rc.goL mt_1250 0 (f2 := (108, [.ref 280, .int x1_26, UU, .int x3_27, UU], [.int (0 : Int32)], gm M28)) (b := true) rfl rfl ?_
        refine Rc.less (ls2 := [.ref 280, .int x1_26, UU, .int x3_27, UU]) (by refine ⟨Or.inr rfl, Or.inr rfl, Or.inl rfl, Or.inr rfl, Or.inl rfl, trivial⟩) ?_
        exact Hj25 x1_26 x3_27 (0 : Int32) _ _ _ hs
      by_cases h32 : (M.1 318 (Int32.toNatClampNeg x3)) = (-1 : Int32)
      · rw [if_pos h32] at hs
        refine Rc.goL mt_1250 5 (f2 := (if (M.1 318 (Int32.toNatClampNeg x3)) = (-1 : Int32) then 107 else 89, [.ref 280, .int x1, UU, .int x3, UU], [], gm M)) (b := (ib 520 x3 && true)) rfl hb14 ?_
        rw [if_pos h32]
        refine Rc.less (ls2 := [.ref 280, .int x1, UU, .int x3, UU]) (by refine ⟨Or.inr rfl, Or.inr rfl, Or.inl rfl, Or.inr rfl, Or.inl rfl, trivial⟩) ?_
        exact Hj29 x1 x3 _ _ _ hs
      · rw [if_neg h32] at hs
        refine Rc.goL mt_1250 5 (f2 := (if (M.1 318 (Int32.toNatClampNeg x3)) = (-1 : Int32) then 107 else 89, [.ref 280, .int x1, UU, .int x3, UU], [], gm M)) (b := (ib 520 x3 && true)) rfl hb14 ?_
        rw [if_neg h32]
        obtain ⟨hb30, hs⟩ := ck_some hs
        obtain ⟨hb30_0, hb30⟩ := and_t hb30
        obtain ⟨hb30_1, hb30⟩ := and_t hb30
        refine Rc.goL mt_1250 6 (f2 := (100, [.ref 280, .int x1, UU, .int x3, UU], [.int (M.1 313 (Int32.toNatClampNeg (M.1 318 (Int32.toNatClampNeg x3))))], gm M)) (b := (ib 520 x3 && (ib 300 (M.1 318 (Int32.toNatClampNeg x3)) && true))) rfl (and_i hb30_0 (and_i hb30_1 rfl)) ?_
        by_cases h31 : 0 < (M.1 313 (Int32.toNatClampNeg (M.1 318 (Int32.toNatClampNeg x3))))
        · rw [if_pos h31] at hs
          refine Rc.goL mt_1250 0 (f2 := (if 0 < (M.1 313 (Int32.toNatClampNeg (M.1 318 (Int32.toNatClampNeg x3)))) then 103 else 107, [.ref 280, .int x1, UU, .int x3, UU], [], gm M)) (b := true) rfl rfl ?_
          rw [if_pos h31]
          refine Rc.goL mt_1250 1 (f2 := (108, [.ref 280, .int x1, UU, .int x3, UU], [.int (1 : Int32)], gm M)) (b := true) rfl rfl ?_
          refine Rc.less (ls2 := [.ref 280, .int x1, UU, .int x3, UU]) (by refine ⟨Or.inr rfl, Or.inr rfl, Or.inl rfl, Or.inr rfl, Or.inl rfl, trivial⟩) ?_
          exact Hj25 x1 x3 (1 : Int32) _ _ _ hs
        · rw [if_neg h31] at hs
          refine Rc.goL mt_1250 0 (f2 := (if 0 < (M.1 313 (Int32.toNatClampNeg (M.1 318 (Int32.toNatClampNeg x3)))) then 103 else 107, [.ref 280, .int x1, UU, .int x3, UU], [], gm M)) (b := true) rfl rfl ?_
          rw [if_neg h31]
          refine Rc.less (ls2 := [.ref 280, .int x1, UU, .int x3, UU]) (by refine ⟨Or.inr rfl, Or.inr rfl, Or.inl rfl, Or.inr rfl, Or.inl rfl, trivial⟩) ?_
          exact Hj29 x1 x3 _ _ _ hs
    · rw [if_neg h33] at hs
      refine Rc.goL mt_1250 2 (f2 := (if x3 < (520 : Int32) then 79 else 137, [.ref 280, .int x1, UU, .int x3, UU], [], gm M)) (b := true) rfl rfl ?_
      rw [if_neg h33]
      obtain ⟨e1, e2⟩ := some_p hs; subst e1; subst e2
      exact Rc.ret (v := none) rfl rfl
set_option maxRecDepth 20000 in
theorem qmd_goesThrough_ok (d : Nat) (hd : 3 ≤ d) {x1 : Int32} {x2 : Int32} {M : SM} {r : Unit} {Mz : SM} (hs : qmd_goesThrough x1 x2 M = some (r, Mz)) : Ex d 1250 [.ref 280, .int x1, .int x2] (gm M) (none, gm Mz) := by
  obtain ⟨d, rfl⟩ : ∃ d0, d = d0 + 1 := ⟨d - 1, by omega⟩
  refine Ex.of okm_1250 (by omega) (Nat.le_of_ble_eq_true rfl) ?_
  show Rc (d + 1) 1250 (0, [.ref 280, .int x1, .int x2, UU, UU], [], gm M) _
  unfold qmd_goesThrough at hs
  refine Rc.goL mt_1250 1 (f2 := (2, [.ref 280, .int x1, .int x2, .int (0 : Int32), UU], [], gm M)) (b := true) rfl rfl ?_
  refine Rc.less (ls2 := [.ref 280, .int x1, .int x2, .int (0 : Int32), UU]) (by refine ⟨Or.inr rfl, Or.inr rfl, Or.inr rfl, Or.inr rfl, Or.inl rfl, trivial⟩) ?_
  refine qmd_goesThrough_L2_ok d hd _ (fun y1_3 y2_4 M5 r Mz hs => ?_) _ x1 x2 (0 : Int32) _ _ _ hs
  · refine Rc.goL mt_1250 1 (f2 := (24, [.ref 280, .int y1_3, .int y2_4, .int (0 : Int32), UU], [], gm M5)) (b := true) rfl rfl ?_
    refine Rc.less (ls2 := [.ref 280, .int y1_3, .int y2_4, .int (0 : Int32), UU]) (by refine ⟨Or.inr rfl, Or.inr rfl, Or.inr rfl, Or.inr rfl, Or.inl rfl, trivial⟩) ?_
    refine qmd_goesThrough_L24_ok d hd _ (fun y1_12 M13 r Mz hs => ?_) _ y1_3 y2_4 (0 : Int32) _ _ _ hs
    · refine Rc.goL mt_1250 1 (f2 := (72, [.ref 280, .int y1_12, UU, .int (0 : Int32), UU], [], gm M13)) (b := true) rfl rfl ?_
      refine Rc.less (ls2 := [.ref 280, .int y1_12, UU, .int (0 : Int32), UU]) (by refine ⟨Or.inr rfl, Or.inr rfl, Or.inl rfl, Or.inr rfl, Or.inl rfl, trivial⟩) ?_
      exact qmd_goesThrough_L72_ok d hd _ y1_12 (0 : Int32) _ _ _ hs
def qmd_framesOf_L5 : Nat → Int32 → Int32 → Int32 → Int32 → SM → Option (Int32 × SM)
  | 0, _, _, _, _, _ => none
  | n + 1, x1, x2, x3, x4, M =>
    if x4 < (M.1 280 3) then
    (ob (qmd_hirerOf x4 x2 M) (fun r1 M2 =>
      if r1 = x1 then
      (qmd_framesOf_L5 n x1 x2 (x3 + (1 : Int32)) (x4 + (1 : Int32)) M2) else
      (qmd_framesOf_L5 n x1 x2 (x3 + (0 : Int32)) (x4 + (1 : Int32)) M2))) else
    (some (x3, M))
def qmd_framesOf (x1 : Int32) (x2 : Int32) (M : SM) : Option (Int32 × SM) :=
  qmd_framesOf_L5 FU x1 x2 (0 : Int32) (0 : Int32) M
theorem mt_1252 : MT 1252 K_1252 LN_12 := ⟨rfl, rfl, by decide +kernel⟩
theorem okm_1252 : OKm 1252 := ⟨⟨vE_1252, okL_12, by decide +kernel⟩, by decide +kernel, by decide +kernel, by decide +kernel⟩
set_option maxRecDepth 20000 in
theorem qmd_framesOf_L5_ok (d : Nat) (hd : 2 ≤ d + 1) : ∀ (n : Nat) (x1 : Int32) (x2 : Int32) (x3 : Int32) (x4 : Int32) (M : SM) (r : Int32) (Mz : SM), qmd_framesOf_L5 n x1 x2 x3 x4 M = some (r, Mz) → Rc (d + 1) 1252 (5, [.ref 280, .int x1, .int x2, .int x3, .int x4], [], gm M) (some (.int r), gm Mz) := by
  intro n
  induction n with
  | zero => intro x1 x2 x3 x4 M r Mz hs; cases hs
  | succ n ih =>
    intro x1 x2 x3 x4 M r Mz hs
    rw [qmd_framesOf_L5] at hs
    by_cases h5 : x4 < (M.1 280 3)
    · rw [if_pos h5] at hs
      refine Rc.goL mt_1252 3 (f2 := (if x4 < (M.1 280 3) then 14 else 39, [.ref 280, .int x1, .int x2, .int x3, .int x4], [], gm M)) (b := true) rfl rfl ?_
      rw [if_pos h5]
      refine Rc.goL mt_1252 3 (f2 := (19, [.ref 280, .int x1, .int x2, .int x3, .int x4], [.int x2, .int x4, .ref 280, .int x3], gm M)) (b := true) rfl rfl ?_
      obtain ⟨r1, M2, he3, hs⟩ := ob_some hs
      refine Rc.callV (i := 208) (mid' := 1210) (av := [.int x4, .int x2]) (rest := [.int x3]) (v := some (.int r1)) (M1 := gm M2) (a := 280) rfl rfl rfl cw_1210 rfl (Nat.le_of_ble_eq_true rfl) rfl (Nat.le_of_ble_eq_true rfl) (qmd_hirerOf_ok _ (by omega) he3) ?_
      by_cases h4 : r1 = x1
      · rw [if_pos h4] at hs
        refine Rc.goL mt_1252 1 (f2 := (if r1 = x1 then 26 else 30, [.ref 280, .int x1, .int x2, .int x3, .int x4], [.int x3], gm M2)) (b := true) rfl rfl ?_
        rw [if_pos h4]
        refine Rc.goL mt_1252 1 (f2 := (31, [.ref 280, .int x1, .int x2, .int x3, .int x4], [.int (1 : Int32), .int x3], gm M2)) (b := true) rfl rfl ?_
        refine Rc.goL mt_1252 3 (f2 := (5, [.ref 280, .int x1, .int x2, .int (x3 + (1 : Int32)), .int (x4 + (1 : Int32))], [], gm M2)) (b := true) rfl rfl ?_
        refine Rc.less (ls2 := [.ref 280, .int x1, .int x2, .int (x3 + (1 : Int32)), .int (x4 + (1 : Int32))]) (by refine ⟨Or.inr rfl, Or.inr rfl, Or.inr rfl, Or.inr rfl, Or.inr rfl, trivial⟩) ?_
        exact ih x1 x2 (x3 + (1 : Int32)) (x4 + (1 : Int32)) _ _ _ hs
      · rw [if_neg h4] at hs
        refine Rc.goL mt_1252 1 (f2 := (if r1 = x1 then 26 else 30, [.ref 280, .int x1, .int x2, .int x3, .int x4], [.int x3], gm M2)) (b := true) rfl rfl ?_
        rw [if_neg h4]
        refine Rc.goL mt_1252 0 (f2 := (31, [.ref 280, .int x1, .int x2, .int x3, .int x4], [.int (0 : Int32), .int x3], gm M2)) (b := true) rfl rfl ?_
        refine Rc.goL mt_1252 3 (f2 := (5, [.ref 280, .int x1, .int x2, .int (x3 + (0 : Int32)), .int (x4 + (1 : Int32))], [], gm M2)) (b := true) rfl rfl ?_
        refine Rc.less (ls2 := [.ref 280, .int x1, .int x2, .int (x3 + (0 : Int32)), .int (x4 + (1 : Int32))]) (by refine ⟨Or.inr rfl, Or.inr rfl, Or.inr rfl, Or.inr rfl, Or.inr rfl, trivial⟩) ?_
        exact ih x1 x2 (x3 + (0 : Int32)) (x4 + (1 : Int32)) _ _ _ hs
    · rw [if_neg h5] at hs
      refine Rc.goL mt_1252 3 (f2 := (if x4 < (M.1 280 3) then 14 else 39, [.ref 280, .int x1, .int x2, .int x3, .int x4], [], gm M)) (b := true) rfl rfl ?_
      rw [if_neg h5]
      refine Rc.goL mt_1252 0 (f2 := (40, [.ref 280, .int x1, .int x2, .int x3, .int x4], [.int x3], gm M)) (b := true) rfl rfl ?_
      obtain ⟨e1, e2⟩ := some_p hs; subst e1; subst e2
      exact Rc.ret (v := some (.int x3)) rfl rfl
set_option maxRecDepth 20000 in
theorem qmd_framesOf_ok (d : Nat) (hd : 2 ≤ d) {x1 : Int32} {x2 : Int32} {M : SM} {r : Int32} {Mz : SM} (hs : qmd_framesOf x1 x2 M = some (r, Mz)) : Ex d 1252 [.ref 280, .int x1, .int x2] (gm M) (some (.int r), gm Mz) := by
  obtain ⟨d, rfl⟩ : ∃ d0, d = d0 + 1 := ⟨d - 1, by omega⟩
  refine Ex.of okm_1252 (by omega) (Nat.le_of_ble_eq_true rfl) ?_
  show Rc (d + 1) 1252 (0, [.ref 280, .int x1, .int x2, UU, UU], [], gm M) _
  unfold qmd_framesOf at hs
  refine Rc.goL mt_1252 3 (f2 := (5, [.ref 280, .int x1, .int x2, .int (0 : Int32), .int (0 : Int32)], [], gm M)) (b := true) rfl rfl ?_
  refine Rc.less (ls2 := [.ref 280, .int x1, .int x2, .int (0 : Int32), .int (0 : Int32)]) (by refine ⟨Or.inr rfl, Or.inr rfl, Or.inr rfl, Or.inr rfl, Or.inr rfl, trivial⟩) ?_
  exact qmd_framesOf_L5_ok d hd _ x1 x2 (0 : Int32) (0 : Int32) _ _ _ hs
def qmd_setsFacts (x1 : Int32) (x2 : Int32) (M : SM) : Option (Unit × SM) :=
  ob (qmd_hirerOf x1 x2 M) (fun r1 M2 =>
  ck (ib 16 x1 && (ib 10 (0 : Int32) && true)) (
  ob (qmd_framesOf r1 x2 (wL M2 307 (Int32.toNatClampNeg (0 : Int32)) (Int32.toInt64 (M2.1 283 (Int32.toNatClampNeg x1))))) (fun r5 M6 =>
  ck (ib 10 (5 : Int32) && (ib 12 r1 && (ib 10 (6 : Int32) && (ib 16 x1 && true)))) (
  if (M6.1 285 (Int32.toNatClampNeg x1)) = (-1 : Int32) then
  (ck (ib 16 x1 && (ib 6 (M6.1 284 (Int32.toNatClampNeg x1)) && true)) (
    if (M6.1 281 (Int32.toNatClampNeg (M6.1 284 (Int32.toNatClampNeg x1)))) = (-1 : Int32) then
    (ck (ib 10 (8 : Int32) && (ib 10 (9 : Int32) && true)) (
      some ((), (wL (wL (wL (wL M6 307 (Int32.toNatClampNeg (5 : Int32)) (Int32.toInt64 r5)) 307 (Int32.toNatClampNeg (6 : Int32)) (Int32.toInt64 (M6.1 282 (Int32.toNatClampNeg r1)))) 307 (Int32.toNatClampNeg (8 : Int32)) (0 : Int64)) 307 (Int32.toNatClampNeg (9 : Int32)) (Int32.toInt64 x2))))) else
    (ck (ib 10 (8 : Int32) && (ib 10 (9 : Int32) && true)) (
      some ((), (wL (wL (wL (wL M6 307 (Int32.toNatClampNeg (5 : Int32)) (Int32.toInt64 r5)) 307 (Int32.toNatClampNeg (6 : Int32)) (Int32.toInt64 (M6.1 282 (Int32.toNatClampNeg r1)))) 307 (Int32.toNatClampNeg (8 : Int32)) (1 : Int64)) 307 (Int32.toNatClampNeg (9 : Int32)) (Int32.toInt64 x2))))))) else
  (ck (ib 10 (8 : Int32) && (ib 10 (9 : Int32) && true)) (
    some ((), (wL (wL (wL (wL M6 307 (Int32.toNatClampNeg (5 : Int32)) (Int32.toInt64 r5)) 307 (Int32.toNatClampNeg (6 : Int32)) (Int32.toInt64 (M6.1 282 (Int32.toNatClampNeg r1)))) 307 (Int32.toNatClampNeg (8 : Int32)) (2 : Int64)) 307 (Int32.toNatClampNeg (9 : Int32)) (Int32.toInt64 x2)))))))))
theorem mt_1253 : MT 1253 K_1253 LN_12 := ⟨rfl, rfl, by decide +kernel⟩
theorem okm_1253 : OKm 1253 := ⟨⟨vE_1253, okL_12, by decide +kernel⟩, by decide +kernel, by decide +kernel, by decide +kernel⟩
set_option maxRecDepth 20000 in
theorem qmd_setsFacts_ok (d : Nat) (hd : 3 ≤ d) {x1 : Int32} {x2 : Int32} {M : SM} {r : Unit} {Mz : SM} (hs : qmd_setsFacts x1 x2 M = some (r, Mz)) : Ex d 1253 [.ref 280, .int x1, .int x2] (gm M) (none, gm Mz) := by
  obtain ⟨d, rfl⟩ : ∃ d0, d = d0 + 1 := ⟨d - 1, by omega⟩
  refine Ex.of okm_1253 (by omega) (Nat.le_of_ble_eq_true rfl) ?_
  show Rc (d + 1) 1253 (0, [.ref 280, .int x1, .int x2, UU], [], gm M) _
  unfold qmd_setsFacts at hs
  refine Rc.goL mt_1253 2 (f2 := (3, [.ref 280, .int x1, .int x2, UU], [.int x2, .int x1, .ref 280], gm M)) (b := true) rfl rfl ?_
  obtain ⟨r1, M2, he3, hs⟩ := ob_some hs
  refine Rc.callV (i := 208) (mid' := 1210) (av := [.int x1, .int x2]) (rest := []) (v := some (.int r1)) (M1 := gm M2) (a := 280) rfl rfl rfl cw_1210 rfl (Nat.le_of_ble_eq_true rfl) rfl (Nat.le_of_ble_eq_true rfl) (qmd_hirerOf_ok _ (by omega) he3) ?_
  obtain ⟨hb4, hs⟩ := ck_some hs
  obtain ⟨hb4_0, hb4⟩ := and_t hb4
  obtain ⟨hb4_1, hb4⟩ := and_t hb4
  refine Rc.goL mt_1253 6 (f2 := (17, [.ref 280, .int x1, .int x2, .int r1], [.int x1, .ref 283, .int (0 : Int32), .ref 307], gm M2)) (b := true) rfl rfl ?_
  refine Rc.goL mt_1253 2 (f2 := (20, [.ref 280, .int x1, .int x2, .int r1], [], gm (wL M2 307 (Int32.toNatClampNeg (0 : Int32)) (Int32.toInt64 (M2.1 283 (Int32.toNatClampNeg x1)))))) (b := (ib 16 x1 && (ib 10 (0 : Int32) && true))) rfl (and_i hb4_0 (and_i hb4_1 rfl)) ?_
  refine Rc.goL mt_1253 5 (f2 := (28, [.ref 280, .int x1, .int x2, .int r1], [.int x2, .int r1, .ref 280, .int (5 : Int32), .ref 307], gm (wL M2 307 (Int32.toNatClampNeg (0 : Int32)) (Int32.toInt64 (M2.1 283 (Int32.toNatClampNeg x1)))))) (b := true) rfl rfl ?_
  obtain ⟨r5, M6, he7, hs⟩ := ob_some hs
  refine Rc.callV (i := 354) (mid' := 1252) (av := [.int r1, .int x2]) (rest := [.int (5 : Int32), .ref 307]) (v := some (.int r5)) (M1 := gm M6) (a := 280) rfl rfl rfl cw_1252 rfl (Nat.le_of_ble_eq_true rfl) rfl (Nat.le_of_ble_eq_true rfl) (qmd_framesOf_ok _ (by omega) he7) ?_
  obtain ⟨hb8, hs⟩ := ck_some hs
  obtain ⟨hb8_0, hb8⟩ := and_t hb8
  obtain ⟨hb8_1, hb8⟩ := and_t hb8
  obtain ⟨hb8_2, hb8⟩ := and_t hb8
  obtain ⟨hb8_3, hb8⟩ := and_t hb8
  refine Rc.goL mt_1253 1 (f2 := (33, [.ref 280, .int x1, .int x2, .int r1], [], gm (wL M6 307 (Int32.toNatClampNeg (5 : Int32)) (Int32.toInt64 r5)))) (b := (ib 10 (5 : Int32) && true)) rfl (and_i hb8_0 rfl) ?_
  refine Rc.goL mt_1253 6 (f2 := (45, [.ref 280, .int x1, .int x2, .int r1], [.int (M6.1 282 (Int32.toNatClampNeg r1)), .int (6 : Int32), .ref 307], gm (wL M6 307 (Int32.toNatClampNeg (5 : Int32)) (Int32.toInt64 r5)))) (b := (ib 12 r1 && true)) rfl (and_i hb8_1 rfl) ?_
  refine Rc.goL mt_1253 1 (f2 := (47, [.ref 280, .int x1, .int x2, .int r1], [], gm (wL (wL M6 307 (Int32.toNatClampNeg (5 : Int32)) (Int32.toInt64 r5)) 307 (Int32.toNatClampNeg (6 : Int32)) (Int32.toInt64 (M6.1 282 (Int32.toNatClampNeg r1)))))) (b := (ib 10 (6 : Int32) && true)) rfl (and_i hb8_2 rfl) ?_
  refine Rc.goL mt_1253 6 (f2 := (59, [.ref 280, .int x1, .int x2, .int r1], [.int (M6.1 285 (Int32.toNatClampNeg x1)), .int (8 : Int32), .ref 307], gm (wL (wL M6 307 (Int32.toNatClampNeg (5 : Int32)) (Int32.toInt64 r5)) 307 (Int32.toNatClampNeg (6 : Int32)) (Int32.toInt64 (M6.1 282 (Int32.toNatClampNeg r1)))))) (b := (ib 16 x1 && true)) rfl (and_i hb8_3 rfl) ?_
  by_cases h14 : (M6.1 285 (Int32.toNatClampNeg x1)) = (-1 : Int32)
  · rw [if_pos h14] at hs
    refine Rc.goL mt_1253 1 (f2 := (if (M6.1 285 (Int32.toNatClampNeg x1)) = (-1 : Int32) then 69 else 63, [.ref 280, .int x1, .int x2, .int r1], [.int (8 : Int32), .ref 307], gm (wL (wL M6 307 (Int32.toNatClampNeg (5 : Int32)) (Int32.toInt64 r5)) 307 (Int32.toNatClampNeg (6 : Int32)) (Int32.toInt64 (M6.1 282 (Int32.toNatClampNeg r1)))))) (b := true) rfl rfl ?_
    rw [if_pos h14]
    obtain ⟨hb9, hs⟩ := ck_some hs
    obtain ⟨hb9_0, hb9⟩ := and_t hb9
    obtain ⟨hb9_1, hb9⟩ := and_t hb9
    refine Rc.goL mt_1253 6 (f2 := (80, [.ref 280, .int x1, .int x2, .int r1], [.int (M6.1 281 (Int32.toNatClampNeg (M6.1 284 (Int32.toNatClampNeg x1)))), .int (8 : Int32), .ref 307], gm (wL (wL M6 307 (Int32.toNatClampNeg (5 : Int32)) (Int32.toInt64 r5)) 307 (Int32.toNatClampNeg (6 : Int32)) (Int32.toInt64 (M6.1 282 (Int32.toNatClampNeg r1)))))) (b := (ib 16 x1 && (ib 6 (M6.1 284 (Int32.toNatClampNeg x1)) && true))) rfl (and_i hb9_0 (and_i hb9_1 rfl)) ?_
    by_cases h12 : (M6.1 281 (Int32.toNatClampNeg (M6.1 284 (Int32.toNatClampNeg x1)))) = (-1 : Int32)
    · rw [if_pos h12] at hs
      refine Rc.goL mt_1253 1 (f2 := (if (M6.1 281 (Int32.toNatClampNeg (M6.1 284 (Int32.toNatClampNeg x1)))) = (-1 : Int32) then 88 else 84, [.ref 280, .int x1, .int x2, .int r1], [.int (8 : Int32), .ref 307], gm (wL (wL M6 307 (Int32.toNatClampNeg (5 : Int32)) (Int32.toInt64 r5)) 307 (Int32.toNatClampNeg (6 : Int32)) (Int32.toInt64 (M6.1 282 (Int32.toNatClampNeg r1)))))) (b := true) rfl rfl ?_
      rw [if_pos h12]
      refine Rc.goL mt_1253 0 (f2 := (89, [.ref 280, .int x1, .int x2, .int r1], [.long (0 : Int64), .int (8 : Int32), .ref 307], gm (wL (wL M6 307 (Int32.toNatClampNeg (5 : Int32)) (Int32.toInt64 r5)) 307 (Int32.toNatClampNeg (6 : Int32)) (Int32.toInt64 (M6.1 282 (Int32.toNatClampNeg r1)))))) (b := true) rfl rfl ?_
      obtain ⟨hb10, hs⟩ := ck_some hs
      obtain ⟨hb10_0, hb10⟩ := and_t hb10
      obtain ⟨hb10_1, hb10⟩ := and_t hb10
      refine Rc.goL mt_1253 0 (f2 := (90, [.ref 280, .int x1, .int x2, .int r1], [], gm (wL (wL (wL M6 307 (Int32.toNatClampNeg (5 : Int32)) (Int32.toInt64 r5)) 307 (Int32.toNatClampNeg (6 : Int32)) (Int32.toInt64 (M6.1 282 (Int32.toNatClampNeg r1)))) 307 (Int32.toNatClampNeg (8 : Int32)) (0 : Int64)))) (b := (ib 10 (8 : Int32) && true)) rfl (and_i hb10_0 rfl) ?_
      refine Rc.goL mt_1253 5 (f2 := (99, [.ref 280, .int x1, .int x2, .int r1], [], gm (wL (wL (wL (wL M6 307 (Int32.toNatClampNeg (5 : Int32)) (Int32.toInt64 r5)) 307 (Int32.toNatClampNeg (6 : Int32)) (Int32.toInt64 (M6.1 282 (Int32.toNatClampNeg r1)))) 307 (Int32.toNatClampNeg (8 : Int32)) (0 : Int64)) 307 (Int32.toNatClampNeg (9 : Int32)) (Int32.toInt64 x2)))) (b := (ib 10 (9 : Int32) && true)) rfl (and_i hb10_1 rfl) ?_
      obtain ⟨e1, e2⟩ := some_p hs; subst e1; subst e2
      exact Rc.ret (v := none) rfl rfl
    · rw [if_neg h12] at hs
      refine Rc.goL mt_1253 1 (f2 := (if (M6.1 281 (Int32.toNatClampNeg (M6.1 284 (Int32.toNatClampNeg x1)))) = (-1 : Int32) then 88 else 84, [.ref 280, .int x1, .int x2, .int r1], [.int (8 : Int32), .ref 307], gm (wL (wL M6 307 (Int32.toNatClampNeg (5 : Int32)) (Int32.toInt64 r5)) 307 (Int32.toNatClampNeg (6 : Int32)) (Int32.toInt64 (M6.1 282 (Int32.toNatClampNeg r1)))))) (b := true) rfl rfl ?_
      rw [if_neg h12]
      refine Rc.goL mt_1253 1 (f2 := (89, [.ref 280, .int x1, .int x2, .int r1], [.long (1 : Int64), .int (8 : Int32), .ref 307], gm (wL (wL M6 307 (Int32.toNatClampNeg (5 : Int32)) (Int32.toInt64 r5)) 307 (Int32.toNatClampNeg (6 : Int32)) (Int32.toInt64 (M6.1 282 (Int32.toNatClampNeg r1)))))) (b := true) rfl rfl ?_
      obtain ⟨hb11, hs⟩ := ck_some hs
      obtain ⟨hb11_0, hb11⟩ := and_t hb11
      obtain ⟨hb11_1, hb11⟩ := and_t hb11
      refine Rc.goL mt_1253 0 (f2 := (90, [.ref 280, .int x1, .int x2, .int r1], [], gm (wL (wL (wL M6 307 (Int32.toNatClampNeg (5 : Int32)) (Int32.toInt64 r5)) 307 (Int32.toNatClampNeg (6 : Int32)) (Int32.toInt64 (M6.1 282 (Int32.toNatClampNeg r1)))) 307 (Int32.toNatClampNeg (8 : Int32)) (1 : Int64)))) (b := (ib 10 (8 : Int32) && true)) rfl (and_i hb11_0 rfl) ?_
      refine Rc.goL mt_1253 5 (f2 := (99, [.ref 280, .int x1, .int x2, .int r1], [], gm (wL (wL (wL (wL M6 307 (Int32.toNatClampNeg (5 : Int32)) (Int32.toInt64 r5)) 307 (Int32.toNatClampNeg (6 : Int32)) (Int32.toInt64 (M6.1 282 (Int32.toNatClampNeg r1)))) 307 (Int32.toNatClampNeg (8 : Int32)) (1 : Int64)) 307 (Int32.toNatClampNeg (9 : Int32)) (Int32.toInt64 x2)))) (b := (ib 10 (9 : Int32) && true)) rfl (and_i hb11_1 rfl) ?_
      obtain ⟨e1, e2⟩ := some_p hs; subst e1; subst e2
      exact Rc.ret (v := none) rfl rfl
  · rw [if_neg h14] at hs
    refine Rc.goL mt_1253 1 (f2 := (if (M6.1 285 (Int32.toNatClampNeg x1)) = (-1 : Int32) then 69 else 63, [.ref 280, .int x1, .int x2, .int r1], [.int (8 : Int32), .ref 307], gm (wL (wL M6 307 (Int32.toNatClampNeg (5 : Int32)) (Int32.toInt64 r5)) 307 (Int32.toNatClampNeg (6 : Int32)) (Int32.toInt64 (M6.1 282 (Int32.toNatClampNeg r1)))))) (b := true) rfl rfl ?_
    rw [if_neg h14]
    refine Rc.goL mt_1253 1 (f2 := (89, [.ref 280, .int x1, .int x2, .int r1], [.long (2 : Int64), .int (8 : Int32), .ref 307], gm (wL (wL M6 307 (Int32.toNatClampNeg (5 : Int32)) (Int32.toInt64 r5)) 307 (Int32.toNatClampNeg (6 : Int32)) (Int32.toInt64 (M6.1 282 (Int32.toNatClampNeg r1)))))) (b := true) rfl rfl ?_
    obtain ⟨hb13, hs⟩ := ck_some hs
    obtain ⟨hb13_0, hb13⟩ := and_t hb13
    obtain ⟨hb13_1, hb13⟩ := and_t hb13
    refine Rc.goL mt_1253 0 (f2 := (90, [.ref 280, .int x1, .int x2, .int r1], [], gm (wL (wL (wL M6 307 (Int32.toNatClampNeg (5 : Int32)) (Int32.toInt64 r5)) 307 (Int32.toNatClampNeg (6 : Int32)) (Int32.toInt64 (M6.1 282 (Int32.toNatClampNeg r1)))) 307 (Int32.toNatClampNeg (8 : Int32)) (2 : Int64)))) (b := (ib 10 (8 : Int32) && true)) rfl (and_i hb13_0 rfl) ?_
    refine Rc.goL mt_1253 5 (f2 := (99, [.ref 280, .int x1, .int x2, .int r1], [], gm (wL (wL (wL (wL M6 307 (Int32.toNatClampNeg (5 : Int32)) (Int32.toInt64 r5)) 307 (Int32.toNatClampNeg (6 : Int32)) (Int32.toInt64 (M6.1 282 (Int32.toNatClampNeg r1)))) 307 (Int32.toNatClampNeg (8 : Int32)) (2 : Int64)) 307 (Int32.toNatClampNeg (9 : Int32)) (Int32.toInt64 x2)))) (b := (ib 10 (9 : Int32) && true)) rfl (and_i hb13_1 rfl) ?_
    obtain ⟨e1, e2⟩ := some_p hs; subst e1; subst e2
    exact Rc.ret (v := none) rfl rfl
def qmd_comesTo (x1 : Int32) (x2 : Int32) (x3 : Int32) (M : SM) : Option (Unit × SM) :=
  ob (qmd_worths x3 M) (fun _ M1 =>
  ob (qmd_bounded (87 : Int32) x2 M1) (fun r4 M5 =>
  ob (qmd_bounded (82 : Int32) x2 (wL M5 280 54 r4)) (fun r7 M8 =>
  ck (ib 16 x1 && true) (
  jn (fun (x2_11 : Int32) (t12 : Int64) (M13 : SM) =>
    ob (qmd_bounded (67 : Int32) x2_11 (wL M13 280 55 t12)) (fun r14 M15 =>
      ob (qmd_bounded (84 : Int32) x2_11 (wL M15 280 56 r14)) (fun r17 M18 =>
      some ((), (wL M18 280 57 r17))))) (fun j20 =>
  if (M8.1 285 (Int32.toNatClampNeg x1)) = (-1 : Int32) then
  (j20 x2 r7 (wL M8 280 55 r7)) else
  (j20 x2 (0 : Int64) (wL M8 280 55 r7)))))))
theorem mt_1254 : MT 1254 K_1254 LN_12 := ⟨rfl, rfl, by decide +kernel⟩
theorem okm_1254 : OKm 1254 := ⟨⟨vE_1254, okL_12, by decide +kernel⟩, by decide +kernel, by decide +kernel, by decide +kernel⟩
set_option maxRecDepth 20000 in
theorem qmd_comesTo_ok (d : Nat) (hd : 4 ≤ d) {x1 : Int32} {x2 : Int32} {x3 : Int32} {M : SM} {r : Unit} {Mz : SM} (hs : qmd_comesTo x1 x2 x3 M = some (r, Mz)) : Ex d 1254 [.ref 280, .int x1, .int x2, .int x3] (gm M) (none, gm Mz) := by
  obtain ⟨d, rfl⟩ : ∃ d0, d = d0 + 1 := ⟨d - 1, by omega⟩
  refine Ex.of okm_1254 (by omega) (Nat.le_of_ble_eq_true rfl) ?_
  show Rc (d + 1) 1254 (0, [.ref 280, .int x1, .int x2, .int x3], [], gm M) _
  unfold qmd_comesTo at hs
  refine Rc.goL mt_1254 1 (f2 := (2, [.ref 280, .int x1, .int x2, .int x3], [.int x3, .ref 280], gm M)) (b := true) rfl rfl ?_
  obtain ⟨u3, M1, he2, hs⟩ := ob_some hs
  refine Rc.callV (i := 343) (mid' := 1243) (av := [.int x3]) (rest := []) (v := none) (M1 := gm M1) (a := 280) rfl rfl rfl cw_1243 rfl (Nat.le_of_ble_eq_true rfl) rfl (Nat.le_of_ble_eq_true rfl) (qmd_worths_ok _ (by omega) he2) ?_
  refine Rc.goL mt_1254 3 (f2 := (10, [.ref 280, .int x1, .int x2, .int x3], [.int x2, .int (87 : Int32), .ref 280, .ref 280], gm M1)) (b := true) rfl rfl ?_
  obtain ⟨r4, M5, he6, hs⟩ := ob_some hs
  refine Rc.callV (i := 359) (mid' := 1246) (av := [.int (87 : Int32), .int x2]) (rest := [.ref 280]) (v := some (.long r4)) (M1 := gm M5) (a := 280) rfl rfl rfl cw_1246 rfl (Nat.le_of_ble_eq_true rfl) rfl (Nat.le_of_ble_eq_true rfl) (qmd_bounded_ok _ (by omega) he6) ?_
  refine Rc.goL mt_1254 0 (f2 := (16, [.ref 280, .int x1, .int x2, .int x3], [], gm (wL M5 280 54 r4))) (b := true) rfl rfl ?_
  refine Rc.goL mt_1254 3 (f2 := (21, [.ref 280, .int x1, .int x2, .int x3], [.int x2, .int (82 : Int32), .ref 280, .ref 280], gm (wL M5 280 54 r4))) (b := true) rfl rfl ?_
  obtain ⟨r7, M8, he9, hs⟩ := ob_some hs
  refine Rc.callV (i := 359) (mid' := 1246) (av := [.int (82 : Int32), .int x2]) (rest := [.ref 280]) (v := some (.long r7)) (M1 := gm M8) (a := 280) rfl rfl rfl cw_1246 rfl (Nat.le_of_ble_eq_true rfl) rfl (Nat.le_of_ble_eq_true rfl) (qmd_bounded_ok _ (by omega) he9) ?_
  obtain ⟨hb10, hs⟩ := ck_some hs
  obtain ⟨hb10_0, hb10⟩ := and_t hb10
  refine Rc.goL mt_1254 0 (f2 := (27, [.ref 280, .int x1, .int x2, .int x3], [], gm (wL M8 280 55 r7))) (b := true) rfl rfl ?_
  refine jn_e (P := fun (j : Int32 → Int64 → SM → Option (Unit × SM)) => ∀ (x2_11 : Int32) (t12 : Int64) (M13 : SM) (r : Unit) (Mz : SM), j x2_11 t12 M13 = some (r, Mz) → Rc (d + 1) 1254 (46, [.ref 280, UU, .int x2_11, UU], [.long t12, .ref 280], gm M13) (none, gm Mz)) hs ?_ (fun j20 Hj20 hs => ?_)
  · intro x2_11 t12 M13 r Mz hs
    try dsimp only at hs
    refine Rc.goL mt_1254 0 (f2 := (49, [.ref 280, UU, .int x2_11, UU], [], gm (wL M13 280 55 t12))) (b := true) rfl rfl ?_
    refine Rc.goL mt_1254 3 (f2 := (54, [.ref 280, UU, .int x2_11, UU], [.int x2_11, .int (67 : Int32), .ref 280, .ref 280], gm (wL M13 280 55 t12))) (b := true) rfl rfl ?_
    obtain ⟨r14, M15, he16, hs⟩ := ob_some hs
    refine Rc.callV (i := 359) (mid' := 1246) (av := [.int (67 : Int32), .int x2_11]) (rest := [.ref 280]) (v := some (.long r14)) (M1 := gm M15) (a := 280) rfl rfl rfl cw_1246 rfl (Nat.le_of_ble_eq_true rfl) rfl (Nat.le_of_ble_eq_true rfl) (qmd_bounded_ok _ (by omega) he16) ?_
    refine Rc.goL mt_1254 0 (f2 := (60, [.ref 280, UU, .int x2_11, UU], [], gm (wL M15 280 56 r14))) (b := true) rfl rfl ?_
    refine Rc.goL mt_1254 3 (f2 := (65, [.ref 280, UU, .int x2_11, UU], [.int x2_11, .int (84 : Int32), .ref 280, .ref 280], gm (wL M15 280 56 r14))) (b := true) rfl rfl ?_
    obtain ⟨r17, M18, he19, hs⟩ := ob_some hs
    refine Rc.callV (i := 359) (mid' := 1246) (av := [.int (84 : Int32), .int x2_11]) (rest := [.ref 280]) (v := some (.long r17)) (M1 := gm M18) (a := 280) rfl rfl rfl cw_1246 rfl (Nat.le_of_ble_eq_true rfl) rfl (Nat.le_of_ble_eq_true rfl) (qmd_bounded_ok _ (by omega) he19) ?_
    refine Rc.goL mt_1254 0 (f2 := (71, [.ref 280, UU, .int x2_11, UU], [], gm (wL M18 280 57 r17))) (b := true) rfl rfl ?_
    obtain ⟨e1, e2⟩ := some_p hs; subst e1; subst e2
    exact Rc.ret (v := none) rfl rfl
  by_cases h21 : (M8.1 285 (Int32.toNatClampNeg x1)) = (-1 : Int32)
  · rw [if_pos h21] at hs
    refine Rc.goL mt_1254 6 (f2 := (if (M8.1 285 (Int32.toNatClampNeg x1)) = (-1 : Int32) then 42 else 38, [.ref 280, .int x1, .int x2, .int x3], [.ref 280], gm (wL M8 280 55 r7))) (b := (ib 16 x1 && true)) rfl (and_i hb10_0 rfl) ?_
    rw [if_pos h21]
    refine Rc.goL mt_1254 1 (f2 := (46, [.ref 280, .int x1, .int x2, .int x3], [.long r7, .ref 280], gm (wL M8 280 55 r7))) (b := true) rfl rfl ?_
    refine Rc.less (ls2 := [.ref 280, UU, .int x2, UU]) (by refine ⟨Or.inr rfl, Or.inl rfl, Or.inr rfl, Or.inl rfl, trivial⟩) ?_
    exact Hj20 x2 r7 _ _ _ hs
  · rw [if_neg h21] at hs
    refine Rc.goL mt_1254 6 (f2 := (if (M8.1 285 (Int32.toNatClampNeg x1)) = (-1 : Int32) then 42 else 38, [.ref 280, .int x1, .int x2, .int x3], [.ref 280], gm (wL M8 280 55 r7))) (b := (ib 16 x1 && true)) rfl (and_i hb10_0 rfl) ?_
    rw [if_neg h21]
    refine Rc.goL mt_1254 1 (f2 := (46, [.ref 280, .int x1, .int x2, .int x3], [.long (0 : Int64), .ref 280], gm (wL M8 280 55 r7))) (b := true) rfl rfl ?_
    refine Rc.less (ls2 := [.ref 280, UU, .int x2, UU]) (by refine ⟨Or.inr rfl, Or.inl rfl, Or.inr rfl, Or.inl rfl, trivial⟩) ?_
    exact Hj20 x2 (0 : Int64) _ _ _ hs
def qmd_left (M : SM) : Option (Int64 × SM) :=
  some ((((M.2 280 54) - (M.2 280 55)) - (M.2 280 56)), M)
theorem mt_1255 : MT 1255 K_1255 LN_12 := ⟨rfl, rfl, by decide +kernel⟩
theorem okm_1255 : OKm 1255 := ⟨⟨vE_1255, okL_12, by decide +kernel⟩, by decide +kernel, by decide +kernel, by decide +kernel⟩
set_option maxRecDepth 20000 in
theorem qmd_left_ok (d : Nat) (hd : 1 ≤ d) {M : SM} {r : Int64} {Mz : SM} (hs : qmd_left M = some (r, Mz)) : Ex d 1255 [.ref 280] (gm M) (some (.long r), gm Mz) := by
  obtain ⟨d, rfl⟩ : ∃ d0, d = d0 + 1 := ⟨d - 1, by omega⟩
  refine Ex.of okm_1255 (by omega) (Nat.le_of_ble_eq_true rfl) ?_
  show Rc (d + 1) 1255 (0, [.ref 280], [], gm M) _
  unfold qmd_left at hs
  refine Rc.goL mt_1255 6 (f2 := (13, [.ref 280], [.long (M.2 280 56), .long ((M.2 280 54) - (M.2 280 55))], gm M)) (b := true) rfl rfl ?_
  refine Rc.goL mt_1255 0 (f2 := (14, [.ref 280], [.long (((M.2 280 54) - (M.2 280 55)) - (M.2 280 56))], gm M)) (b := true) rfl rfl ?_
  obtain ⟨e1, e2⟩ := some_p hs; subst e1; subst e2
  exact Rc.ret (v := some (.long (((M.2 280 54) - (M.2 280 55)) - (M.2 280 56)))) rfl rfl
def qmd_paidInTruck (M : SM) : Option (Int64 × SM) :=
  ob (qmd_left M) (fun r1 M2 =>
  if 0 < (lg_cmp r1 (0 : Int64)) then
  (ob (qmd_left M2) (fun r4 M5 =>
    if (lg_cmp (M2.2 280 57) r4) < 0 then
    (some ((M5.2 280 57), M5)) else
    (ob (qmd_left M5) (fun r7 M8 =>
      some (r7, M8))))) else
  (some ((0 : Int64), M2)))
theorem mt_1256 : MT 1256 K_1256 LN_12 := ⟨rfl, rfl, by decide +kernel⟩
theorem okm_1256 : OKm 1256 := ⟨⟨vE_1256, okL_12, by decide +kernel⟩, by decide +kernel, by decide +kernel, by decide +kernel⟩
set_option maxRecDepth 20000 in
theorem qmd_paidInTruck_ok (d : Nat) (hd : 2 ≤ d) {M : SM} {r : Int64} {Mz : SM} (hs : qmd_paidInTruck M = some (r, Mz)) : Ex d 1256 [.ref 280] (gm M) (some (.long r), gm Mz) := by
  obtain ⟨d, rfl⟩ : ∃ d0, d = d0 + 1 := ⟨d - 1, by omega⟩
  refine Ex.of okm_1256 (by omega) (Nat.le_of_ble_eq_true rfl) ?_
  show Rc (d + 1) 1256 (0, [.ref 280], [], gm M) _
  unfold qmd_paidInTruck at hs
  refine Rc.goL mt_1256 0 (f2 := (1, [.ref 280], [.ref 280], gm M)) (b := true) rfl rfl ?_
  obtain ⟨r1, M2, he3, hs⟩ := ob_some hs
  refine Rc.callV (i := 376) (mid' := 1255) (av := []) (rest := []) (v := some (.long r1)) (M1 := gm M2) (a := 280) rfl rfl rfl cw_1255 rfl (Nat.le_of_ble_eq_true rfl) rfl (Nat.le_of_ble_eq_true rfl) (qmd_left_ok _ (by omega) he3) ?_
  by_cases h11 : 0 < (lg_cmp r1 (0 : Int64))
  · rw [if_pos h11] at hs
    refine Rc.goL mt_1256 2 (f2 := (if 0 < (lg_cmp r1 (0 : Int64)) then 13 else 9, [.ref 280], [], gm M2)) (b := true) rfl rfl ?_
    rw [if_pos h11]
    refine Rc.goL mt_1256 2 (f2 := (18, [.ref 280], [.ref 280, .long (M2.2 280 57)], gm M2)) (b := true) rfl rfl ?_
    obtain ⟨r4, M5, he6, hs⟩ := ob_some hs
    refine Rc.callV (i := 376) (mid' := 1255) (av := []) (rest := [.long (M2.2 280 57)]) (v := some (.long r4)) (M1 := gm M5) (a := 280) rfl rfl rfl cw_1255 rfl (Nat.le_of_ble_eq_true rfl) rfl (Nat.le_of_ble_eq_true rfl) (qmd_left_ok _ (by omega) he6) ?_
    by_cases h10 : (lg_cmp (M2.2 280 57) r4) < 0
    · rw [if_pos h10] at hs
      refine Rc.goL mt_1256 1 (f2 := (if (lg_cmp (M2.2 280 57) r4) < 0 then 25 else 32, [.ref 280], [], gm M5)) (b := true) rfl rfl ?_
      rw [if_pos h10]
      refine Rc.goL mt_1256 2 (f2 := (36, [.ref 280], [.long (M5.2 280 57)], gm M5)) (b := true) rfl rfl ?_
      obtain ⟨e1, e2⟩ := some_p hs; subst e1; subst e2
      exact Rc.ret (v := some (.long (M5.2 280 57))) rfl rfl
    · rw [if_neg h10] at hs
      refine Rc.goL mt_1256 1 (f2 := (if (lg_cmp (M2.2 280 57) r4) < 0 then 25 else 32, [.ref 280], [], gm M5)) (b := true) rfl rfl ?_
      rw [if_neg h10]
      refine Rc.goL mt_1256 0 (f2 := (33, [.ref 280], [.ref 280], gm M5)) (b := true) rfl rfl ?_
      obtain ⟨r7, M8, he9, hs⟩ := ob_some hs
      refine Rc.callV (i := 376) (mid' := 1255) (av := []) (rest := []) (v := some (.long r7)) (M1 := gm M8) (a := 280) rfl rfl rfl cw_1255 rfl (Nat.le_of_ble_eq_true rfl) rfl (Nat.le_of_ble_eq_true rfl) (qmd_left_ok _ (by omega) he9) ?_
      obtain ⟨e1, e2⟩ := some_p hs; subst e1; subst e2
      exact Rc.ret (v := some (.long r7)) rfl rfl
  · rw [if_neg h11] at hs
    refine Rc.goL mt_1256 2 (f2 := (if 0 < (lg_cmp r1 (0 : Int64)) then 13 else 9, [.ref 280], [], gm M2)) (b := true) rfl rfl ?_
    rw [if_neg h11]
    refine Rc.goL mt_1256 1 (f2 := (36, [.ref 280], [.long (0 : Int64)], gm M2)) (b := true) rfl rfl ?_
    obtain ⟨e1, e2⟩ := some_p hs; subst e1; subst e2
    exact Rc.ret (v := some (.long (0 : Int64))) rfl rfl
def qmd_weekOf (x1 : Int32) (x2 : Int32) (x3 : Int32) (M : SM) : Option (Int32 × SM) :=
  ob (qmd_hirerOf x1 x2 M) (fun r1 M2 =>
  if r1 = (-1 : Int32) then
  (some ((0 : Int32), M2)) else
  (ob (qmd_setsFacts x1 x2 M2) (fun _ M4 =>
    ck (ib 520 x2 && true) (
    jn (fun (x1_8 : Int32) (x2_9 : Int32) (x3_10 : Int32) (x4_11 : Int32) (t12 : Int64) (M13 : SM) =>
      ck (ib 10 (1 : Int32) && true) (
        jn (fun (x1_15 : Int32) (x2_16 : Int32) (x3_17 : Int32) (x4_18 : Int32) (t19 : Int64) (M20 : SM) =>
          ck (ib 10 (2 : Int32) && true) (
            jn (fun (x1_22 : Int32) (x2_23 : Int32) (x3_24 : Int32) (x4_25 : Int32) (t26 : Int64) (M27 : SM) =>
              ck (ib 10 (3 : Int32) && true) (
                jn (fun (x1_29 : Int32) (x2_30 : Int32) (x3_31 : Int32) (t32 : Int64) (M33 : SM) =>
                  ck (ib 10 (4 : Int32) && (ib 520 x2_30 && (ib 10 (7 : Int32) && true))) (
                    ob (qmd_comesTo x1_29 x2_30 x3_31 (wL (wL M33 307 (Int32.toNatClampNeg (4 : Int32)) t32) 307 (Int32.toNatClampNeg (7 : Int32)) (Int32.toInt64 (M33.1 319 (Int32.toNatClampNeg x2_30))))) (fun _ M35 =>
                    some ((1 : Int32), M35)))) (fun j38 =>
                if x4_25 = (-1 : Int32) then
                (j38 x1_22 x2_23 x3_24 (0 : Int64) (wL M27 307 (Int32.toNatClampNeg (3 : Int32)) t26)) else
                (ck (ib 300 x4_25 && true) (
                  j38 x1_22 x2_23 x3_24 (Int32.toInt64 (M27.1 315 (Int32.toNatClampNeg x4_25))) (wL M27 307 (Int32.toNatClampNeg (3 : Int32)) t26)))))) (fun j41 =>
            if x4_18 = (-1 : Int32) then
            (j41 x1_15 x2_16 x3_17 x4_18 (0 : Int64) (wL M20 307 (Int32.toNatClampNeg (2 : Int32)) t19)) else
            (ck (ib 300 x4_18 && true) (
              j41 x1_15 x2_16 x3_17 x4_18 (Int32.toInt64 (M20.1 314 (Int32.toNatClampNeg x4_18))) (wL M20 307 (Int32.toNatClampNeg (2 : Int32)) t19)))))) (fun j44 =>
        if x4_11 = (-1 : Int32) then
        (j44 x1_8 x2_9 x3_10 x4_11 (0 : Int64) (wL M13 307 (Int32.toNatClampNeg (1 : Int32)) t12)) else
        (ck (ib 300 x4_11 && true) (
          j44 x1_8 x2_9 x3_10 x4_11 (Int32.toInt64 (M13.1 312 (Int32.toNatClampNeg x4_11))) (wL M13 307 (Int32.toNatClampNeg (1 : Int32)) t12)))))) (fun j47 =>
    if (M4.1 318 (Int32.toNatClampNeg x2)) = (-1 : Int32) then
    (j47 x1 x2 x3 (M4.1 318 (Int32.toNatClampNeg x2)) (0 : Int64) M4) else
    (ck (ib 300 (M4.1 318 (Int32.toNatClampNeg x2)) && true) (
      j47 x1 x2 x3 (M4.1 318 (Int32.toNatClampNeg x2)) (Int32.toInt64 (M4.1 313 (Int32.toNatClampNeg (M4.1 318 (Int32.toNatClampNeg x2))))) M4)))))))
theorem mt_1257 : MT 1257 K_1257 LN_12 := ⟨rfl, rfl, by decide +kernel⟩
theorem okm_1257 : OKm 1257 := ⟨⟨vE_1257, okL_12, by decide +kernel⟩, by decide +kernel, by decide +kernel, by decide +kernel⟩
set_option maxRecDepth 20000 in
theorem qmd_weekOf_ok (d : Nat) (hd : 5 ≤ d) {x1 : Int32} {x2 : Int32} {x3 : Int32} {M : SM} {r : Int32} {Mz : SM} (hs : qmd_weekOf x1 x2 x3 M = some (r, Mz)) : Ex d 1257 [.ref 280, .int x1, .int x2, .int x3] (gm M) (some (.int r), gm Mz) := by
  obtain ⟨d, rfl⟩ : ∃ d0, d = d0 + 1 := ⟨d - 1, by omega⟩
  refine Ex.of okm_1257 (by omega) (Nat.le_of_ble_eq_true rfl) ?_
  show Rc (d + 1) 1257 (0, [.ref 280, .int x1, .int x2, .int x3, UU], [], gm M) _
  unfold qmd_weekOf at hs
  refine Rc.goL mt_1257 2 (f2 := (3, [.ref 280, .int x1, .int x2, .int x3, UU], [.int x2, .int x1, .ref 280], gm M)) (b := true) rfl rfl ?_
  obtain ⟨r1, M2, he3, hs⟩ := ob_some hs
  refine Rc.callV (i := 208) (mid' := 1210) (av := [.int x1, .int x2]) (rest := []) (v := some (.int r1)) (M1 := gm M2) (a := 280) rfl rfl rfl cw_1210 rfl (Nat.le_of_ble_eq_true rfl) rfl (Nat.le_of_ble_eq_true rfl) (qmd_hirerOf_ok _ (by omega) he3) ?_
  by_cases h50 : r1 = (-1 : Int32)
  · rw [if_pos h50] at hs
    refine Rc.goL mt_1257 1 (f2 := (if r1 = (-1 : Int32) then 10 else 12, [.ref 280, .int x1, .int x2, .int x3, UU], [], gm M2)) (b := true) rfl rfl ?_
    rw [if_pos h50]
    refine Rc.goL mt_1257 0 (f2 := (11, [.ref 280, .int x1, .int x2, .int x3, UU], [.int (0 : Int32)], gm M2)) (b := true) rfl rfl ?_
    obtain ⟨e1, e2⟩ := some_p hs; subst e1; subst e2
    exact Rc.ret (v := some (.int (0 : Int32))) rfl rfl
  · rw [if_neg h50] at hs
    refine Rc.goL mt_1257 1 (f2 := (if r1 = (-1 : Int32) then 10 else 12, [.ref 280, .int x1, .int x2, .int x3, UU], [], gm M2)) (b := true) rfl rfl ?_
    rw [if_neg h50]
    refine Rc.goL mt_1257 2 (f2 := (15, [.ref 280, .int x1, .int x2, .int x3, UU], [.int x2, .int x1, .ref 280], gm M2)) (b := true) rfl rfl ?_
    obtain ⟨u6, M4, he5, hs⟩ := ob_some hs
    refine Rc.callV (i := 380) (mid' := 1253) (av := [.int x1, .int x2]) (rest := []) (v := none) (M1 := gm M4) (a := 280) rfl rfl rfl cw_1253 rfl (Nat.le_of_ble_eq_true rfl) rfl (Nat.le_of_ble_eq_true rfl) (qmd_setsFacts_ok _ (by omega) he5) ?_
    obtain ⟨hb7, hs⟩ := ck_some hs
    obtain ⟨hb7_0, hb7⟩ := and_t hb7
    refine Rc.goL mt_1257 6 (f2 := (30, [.ref 280, .int x1, .int x2, .int x3, .int (M4.1 318 (Int32.toNatClampNeg x2))], [.ref 307], gm M4)) (b := (ib 520 x2 && true)) rfl (and_i hb7_0 rfl) ?_
    refine jn_e (P := fun (j : Int32 → Int32 → Int32 → Int32 → Int64 → SM → Option (Int32 × SM)) => ∀ (x1_8 : Int32) (x2_9 : Int32) (x3_10 : Int32) (x4_11 : Int32) (t12 : Int64) (M13 : SM) (r : Int32) (Mz : SM), j x1_8 x2_9 x3_10 x4_11 t12 M13 = some (r, Mz) → Rc (d + 1) 1257 (49, [.ref 280, .int x1_8, .int x2_9, .int x3_10, .int x4_11], [.long t12, .int (1 : Int32), .ref 307], gm M13) (some (.int r), gm Mz)) hs ?_ (fun j47 Hj47 hs => ?_)
    · intro x1_8 x2_9 x3_10 x4_11 t12 M13 r Mz hs
      try dsimp only at hs
      obtain ⟨hb14, hs⟩ := ck_some hs
      obtain ⟨hb14_0, hb14⟩ := and_t hb14
      refine Rc.goL mt_1257 0 (f2 := (50, [.ref 280, .int x1_8, .int x2_9, .int x3_10, .int x4_11], [], gm (wL M13 307 (Int32.toNatClampNeg (1 : Int32)) t12))) (b := (ib 10 (1 : Int32) && true)) rfl (and_i hb14_0 rfl) ?_
      refine jn_e (P := fun (j : Int32 → Int32 → Int32 → Int32 → Int64 → SM → Option (Int32 × SM)) => ∀ (x1_15 : Int32) (x2_16 : Int32) (x3_17 : Int32) (x4_18 : Int32) (t19 : Int64) (M20 : SM) (r : Int32) (Mz : SM), j x1_15 x2_16 x3_17 x4_18 t19 M20 = some (r, Mz) → Rc (d + 1) 1257 (73, [.ref 280, .int x1_15, .int x2_16, .int x3_17, .int x4_18], [.long t19, .int (2 : Int32), .ref 307], gm M20) (some (.int r), gm Mz)) hs ?_ (fun j44 Hj44 hs => ?_)
      · intro x1_15 x2_16 x3_17 x4_18 t19 M20 r Mz hs
        try dsimp only at hs
        obtain ⟨hb21, hs⟩ := ck_some hs
        obtain ⟨hb21_0, hb21⟩ := and_t hb21
        refine Rc.goL mt_1257 0 (f2 := (74, [.ref 280, .int x1_15, .int x2_16, .int x3_17, .int x4_18], [], gm (wL M20 307 (Int32.toNatClampNeg (2 : Int32)) t19))) (b := (ib 10 (2 : Int32) && true)) rfl (and_i hb21_0 rfl) ?_
        refine jn_e (P := fun (j : Int32 → Int32 → Int32 → Int32 → Int64 → SM → Option (Int32 × SM)) => ∀ (x1_22 : Int32) (x2_23 : Int32) (x3_24 : Int32) (x4_25 : Int32) (t26 : Int64) (M27 : SM) (r : Int32) (Mz : SM), j x1_22 x2_23 x3_24 x4_25 t26 M27 = some (r, Mz) → Rc (d + 1) 1257 (97, [.ref 280, .int x1_22, .int x2_23, .int x3_24, .int x4_25], [.long t26, .int (3 : Int32), .ref 307], gm M27) (some (.int r), gm Mz)) hs ?_ (fun j41 Hj41 hs => ?_)
        · intro x1_22 x2_23 x3_24 x4_25 t26 M27 r Mz hs
          try dsimp only at hs
          obtain ⟨hb28, hs⟩ := ck_some hs
          obtain ⟨hb28_0, hb28⟩ := and_t hb28
          refine Rc.goL mt_1257 0 (f2 := (98, [.ref 280, .int x1_22, .int x2_23, .int x3_24, .int x4_25], [], gm (wL M27 307 (Int32.toNatClampNeg (3 : Int32)) t26))) (b := (ib 10 (3 : Int32) && true)) rfl (and_i hb28_0 rfl) ?_
          refine jn_e (P := fun (j : Int32 → Int32 → Int32 → Int64 → SM → Option (Int32 × SM)) => ∀ (x1_29 : Int32) (x2_30 : Int32) (x3_31 : Int32) (t32 : Int64) (M33 : SM) (r : Int32) (Mz : SM), j x1_29 x2_30 x3_31 t32 M33 = some (r, Mz) → Rc (d + 1) 1257 (121, [.ref 280, .int x1_29, .int x2_30, .int x3_31, UU], [.long t32, .int (4 : Int32), .ref 307], gm M33) (some (.int r), gm Mz)) hs ?_ (fun j38 Hj38 hs => ?_)
          · intro x1_29 x2_30 x3_31 t32 M33 r Mz hs
            try dsimp only at hs
            obtain ⟨hb34, hs⟩ := ck_some hs
            obtain ⟨hb34_0, hb34⟩ := and_t hb34
            obtain ⟨hb34_1, hb34⟩ := and_t hb34
            obtain ⟨hb34_2, hb34⟩ := and_t hb34
            refine Rc.goL mt_1257 0 (f2 := (122, [.ref 280, .int x1_29, .int x2_30, .int x3_31, UU], [], gm (wL M33 307 (Int32.toNatClampNeg (4 : Int32)) t32))) (b := (ib 10 (4 : Int32) && true)) rfl (and_i hb34_0 rfl) ?_
            refine Rc.goL mt_1257 6 (f2 := (134, [.ref 280, .int x1_29, .int x2_30, .int x3_31, UU], [.int (M33.1 319 (Int32.toNatClampNeg x2_30)), .int (7 : Int32), .ref 307], gm (wL M33 307 (Int32.toNatClampNeg (4 : Int32)) t32))) (b := (ib 520 x2_30 && true)) rfl (and_i hb34_1 rfl) ?_
            refine Rc.goL mt_1257 1 (f2 := (136, [.ref 280, .int x1_29, .int x2_30, .int x3_31, UU], [], gm (wL (wL M33 307 (Int32.toNatClampNeg (4 : Int32)) t32) 307 (Int32.toNatClampNeg (7 : Int32)) (Int32.toInt64 (M33.1 319 (Int32.toNatClampNeg x2_30)))))) (b := (ib 10 (7 : Int32) && true)) rfl (and_i hb34_2 rfl) ?_
            refine Rc.goL mt_1257 3 (f2 := (140, [.ref 280, .int x1_29, .int x2_30, .int x3_31, UU], [.int x3_31, .int x2_30, .int x1_29, .ref 280], gm (wL (wL M33 307 (Int32.toNatClampNeg (4 : Int32)) t32) 307 (Int32.toNatClampNeg (7 : Int32)) (Int32.toInt64 (M33.1 319 (Int32.toNatClampNeg x2_30)))))) (b := true) rfl rfl ?_
            obtain ⟨u37, M35, he36, hs⟩ := ob_some hs
            refine Rc.callV (i := 383) (mid' := 1254) (av := [.int x1_29, .int x2_30, .int x3_31]) (rest := []) (v := none) (M1 := gm M35) (a := 280) rfl rfl rfl cw_1254 rfl (Nat.le_of_ble_eq_true rfl) rfl (Nat.le_of_ble_eq_true rfl) (qmd_comesTo_ok _ (by omega) he36) ?_
            refine Rc.goL mt_1257 0 (f2 := (144, [.ref 280, .int x1_29, .int x2_30, .int x3_31, UU], [.int (1 : Int32)], gm M35)) (b := true) rfl rfl ?_
            obtain ⟨e1, e2⟩ := some_p hs; subst e1; subst e2
            exact Rc.ret (v := some (.int (1 : Int32))) rfl rfl
          by_cases h40 : x4_25 = (-1 : Int32)
          · rw [if_pos h40] at hs
            refine Rc.goL mt_1257 5 (f2 := (if x4_25 = (-1 : Int32) then 109 else 113, [.ref 280, .int x1_22, .int x2_23, .int x3_24, .int x4_25], [.int (4 : Int32), .ref 307], gm (wL M27 307 (Int32.toNatClampNeg (3 : Int32)) t26))) (b := true) rfl rfl ?_
            rw [if_pos h40]
            refine Rc.goL mt_1257 1 (f2 := (121, [.ref 280, .int x1_22, .int x2_23, .int x3_24, .int x4_25], [.long (0 : Int64), .int (4 : Int32), .ref 307], gm (wL M27 307 (Int32.toNatClampNeg (3 : Int32)) t26))) (b := true) rfl rfl ?_
            refine Rc.less (ls2 := [.ref 280, .int x1_22, .int x2_23, .int x3_24, UU]) (by refine ⟨Or.inr rfl, Or.inr rfl, Or.inr rfl, Or.inr rfl, Or.inl rfl, trivial⟩) ?_
            exact Hj38 x1_22 x2_23 x3_24 (0 : Int64) _ _ _ hs
          · rw [if_neg h40] at hs
            refine Rc.goL mt_1257 5 (f2 := (if x4_25 = (-1 : Int32) then 109 else 113, [.ref 280, .int x1_22, .int x2_23, .int x3_24, .int x4_25], [.int (4 : Int32), .ref 307], gm (wL M27 307 (Int32.toNatClampNeg (3 : Int32)) t26))) (b := true) rfl rfl ?_
            rw [if_neg h40]
            obtain ⟨hb39, hs⟩ := ck_some hs
            refine Rc.goL mt_1257 4 (f2 := (121, [.ref 280, .int x1_22, .int x2_23, .int x3_24, .int x4_25], [.long (Int32.toInt64 (M27.1 315 (Int32.toNatClampNeg x4_25))), .int (4 : Int32), .ref 307], gm (wL M27 307 (Int32.toNatClampNeg (3 : Int32)) t26))) (b := (ib 300 x4_25 && true)) rfl hb39 ?_
            refine Rc.less (ls2 := [.ref 280, .int x1_22, .int x2_23, .int x3_24, UU]) (by refine ⟨Or.inr rfl, Or.inr rfl, Or.inr rfl, Or.inr rfl, Or.inl rfl, trivial⟩) ?_
            exact Hj38 x1_22 x2_23 x3_24 (Int32.toInt64 (M27.1 315 (Int32.toNatClampNeg x4_25))) _ _ _ hs
        by_cases h43 : x4_18 = (-1 : Int32)
        · rw [if_pos h43] at hs
          refine Rc.goL mt_1257 5 (f2 := (if x4_18 = (-1 : Int32) then 85 else 89, [.ref 280, .int x1_15, .int x2_16, .int x3_17, .int x4_18], [.int (3 : Int32), .ref 307], gm (wL M20 307 (Int32.toNatClampNeg (2 : Int32)) t19))) (b := true) rfl rfl ?_
          rw [if_pos h43]
          refine Rc.goL mt_1257 1 (f2 := (97, [.ref 280, .int x1_15, .int x2_16, .int x3_17, .int x4_18], [.long (0 : Int64), .int (3 : Int32), .ref 307], gm (wL M20 307 (Int32.toNatClampNeg (2 : Int32)) t19))) (b := true) rfl rfl ?_
          refine Rc.less (ls2 := [.ref 280, .int x1_15, .int x2_16, .int x3_17, .int x4_18]) (by refine ⟨Or.inr rfl, Or.inr rfl, Or.inr rfl, Or.inr rfl, Or.inr rfl, trivial⟩) ?_
          exact Hj41 x1_15 x2_16 x3_17 x4_18 (0 : Int64) _ _ _ hs
        · rw [if_neg h43] at hs
          refine Rc.goL mt_1257 5 (f2 := (if x4_18 = (-1 : Int32) then 85 else 89, [.ref 280, .int x1_15, .int x2_16, .int x3_17, .int x4_18], [.int (3 : Int32), .ref 307], gm (wL M20 307 (Int32.toNatClampNeg (2 : Int32)) t19))) (b := true) rfl rfl ?_
          rw [if_neg h43]
          obtain ⟨hb42, hs⟩ := ck_some hs
          refine Rc.goL mt_1257 4 (f2 := (97, [.ref 280, .int x1_15, .int x2_16, .int x3_17, .int x4_18], [.long (Int32.toInt64 (M20.1 314 (Int32.toNatClampNeg x4_18))), .int (3 : Int32), .ref 307], gm (wL M20 307 (Int32.toNatClampNeg (2 : Int32)) t19))) (b := (ib 300 x4_18 && true)) rfl hb42 ?_
          refine Rc.less (ls2 := [.ref 280, .int x1_15, .int x2_16, .int x3_17, .int x4_18]) (by refine ⟨Or.inr rfl, Or.inr rfl, Or.inr rfl, Or.inr rfl, Or.inr rfl, trivial⟩) ?_
          exact Hj41 x1_15 x2_16 x3_17 x4_18 (Int32.toInt64 (M20.1 314 (Int32.toNatClampNeg x4_18))) _ _ _ hs
      by_cases h46 : x4_11 = (-1 : Int32)
      · rw [if_pos h46] at hs
        refine Rc.goL mt_1257 5 (f2 := (if x4_11 = (-1 : Int32) then 61 else 65, [.ref 280, .int x1_8, .int x2_9, .int x3_10, .int x4_11], [.int (2 : Int32), .ref 307], gm (wL M13 307 (Int32.toNatClampNeg (1 : Int32)) t12))) (b := true) rfl rfl ?_
        rw [if_pos h46]
        refine Rc.goL mt_1257 1 (f2 := (73, [.ref 280, .int x1_8, .int x2_9, .int x3_10, .int x4_11], [.long (0 : Int64), .int (2 : Int32), .ref 307], gm (wL M13 307 (Int32.toNatClampNeg (1 : Int32)) t12))) (b := true) rfl rfl ?_
        refine Rc.less (ls2 := [.ref 280, .int x1_8, .int x2_9, .int x3_10, .int x4_11]) (by refine ⟨Or.inr rfl, Or.inr rfl, Or.inr rfl, Or.inr rfl, Or.inr rfl, trivial⟩) ?_
        exact Hj44 x1_8 x2_9 x3_10 x4_11 (0 : Int64) _ _ _ hs
      · rw [if_neg h46] at hs
        refine Rc.goL mt_1257 5 (f2 := (if x4_11 = (-1 : Int32) then 61 else 65, [.ref 280, .int x1_8, .int x2_9, .int x3_10, .int x4_11], [.int (2 : Int32), .ref 307], gm (wL M13 307 (Int32.toNatClampNeg (1 : Int32)) t12))) (b := true) rfl rfl ?_
        rw [if_neg h46]
        obtain ⟨hb45, hs⟩ := ck_some hs
        refine Rc.goL mt_1257 4 (f2 := (73, [.ref 280, .int x1_8, .int x2_9, .int x3_10, .int x4_11], [.long (Int32.toInt64 (M13.1 312 (Int32.toNatClampNeg x4_11))), .int (2 : Int32), .ref 307], gm (wL M13 307 (Int32.toNatClampNeg (1 : Int32)) t12))) (b := (ib 300 x4_11 && true)) rfl hb45 ?_
        refine Rc.less (ls2 := [.ref 280, .int x1_8, .int x2_9, .int x3_10, .int x4_11]) (by refine ⟨Or.inr rfl, Or.inr rfl, Or.inr rfl, Or.inr rfl, Or.inr rfl, trivial⟩) ?_
        exact Hj44 x1_8 x2_9 x3_10 x4_11 (Int32.toInt64 (M13.1 312 (Int32.toNatClampNeg x4_11))) _ _ _ hs
    by_cases h49 : (M4.1 318 (Int32.toNatClampNeg x2)) = (-1 : Int32)
    · rw [if_pos h49] at hs
      refine Rc.goL mt_1257 3 (f2 := (if (M4.1 318 (Int32.toNatClampNeg x2)) = (-1 : Int32) then 37 else 41, [.ref 280, .int x1, .int x2, .int x3, .int (M4.1 318 (Int32.toNatClampNeg x2))], [.int (1 : Int32), .ref 307], gm M4)) (b := true) rfl rfl ?_
      rw [if_pos h49]
      refine Rc.goL mt_1257 1 (f2 := (49, [.ref 280, .int x1, .int x2, .int x3, .int (M4.1 318 (Int32.toNatClampNeg x2))], [.long (0 : Int64), .int (1 : Int32), .ref 307], gm M4)) (b := true) rfl rfl ?_
      refine Rc.less (ls2 := [.ref 280, .int x1, .int x2, .int x3, .int (M4.1 318 (Int32.toNatClampNeg x2))]) (by refine ⟨Or.inr rfl, Or.inr rfl, Or.inr rfl, Or.inr rfl, Or.inr rfl, trivial⟩) ?_
      exact Hj47 x1 x2 x3 (M4.1 318 (Int32.toNatClampNeg x2)) (0 : Int64) _ _ _ hs
    · rw [if_neg h49] at hs
      refine Rc.goL mt_1257 3 (f2 := (if (M4.1 318 (Int32.toNatClampNeg x2)) = (-1 : Int32) then 37 else 41, [.ref 280, .int x1, .int x2, .int x3, .int (M4.1 318 (Int32.toNatClampNeg x2))], [.int (1 : Int32), .ref 307], gm M4)) (b := true) rfl rfl ?_
      rw [if_neg h49]
      obtain ⟨hb48, hs⟩ := ck_some hs
      refine Rc.goL mt_1257 4 (f2 := (49, [.ref 280, .int x1, .int x2, .int x3, .int (M4.1 318 (Int32.toNatClampNeg x2))], [.long (Int32.toInt64 (M4.1 313 (Int32.toNatClampNeg (M4.1 318 (Int32.toNatClampNeg x2))))), .int (1 : Int32), .ref 307], gm M4)) (b := (ib 300 (M4.1 318 (Int32.toNatClampNeg x2)) && true)) rfl hb48 ?_
      refine Rc.less (ls2 := [.ref 280, .int x1, .int x2, .int x3, .int (M4.1 318 (Int32.toNatClampNeg x2))]) (by refine ⟨Or.inr rfl, Or.inr rfl, Or.inr rfl, Or.inr rfl, Or.inr rfl, trivial⟩) ?_
      exact Hj47 x1 x2 x3 (M4.1 318 (Int32.toNatClampNeg x2)) (Int32.toInt64 (M4.1 313 (Int32.toNatClampNeg (M4.1 318 (Int32.toNatClampNeg x2))))) _ _ _ hs
