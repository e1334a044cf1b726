def qmd_weighs_L93 (k231 : Int32 → SM → Option (Unit × SM)) : Nat → Int32 → Int32 → Int32 → SM → Option (Unit × SM)
  | 0, _, _, _, _ => none
  | n + 1, x1, x2, x3, M =>
    if (24 : Int32) < x3 then
    (k231 x1 M) else
    (ck (ib 10 (1 : Int32) && (ib 10 (2 : Int32) && (ib 10 (3 : Int32) && (ib 10 (4 : Int32) && true)))) (
      jn (fun (x1_16 : Int32) (x2_17 : Int32) (x3_18 : Int32) (t19 : Int64) (M20 : SM) =>
        ck (ib 10 (7 : Int32) && (ib 3120 (((520 : Int32) * (M20.1 280 69)) + (M20.1 280 0)) && true)) (
          ob (qmd_comesTo x1_16 (M20.1 280 0) (M20.1 287 (Int32.toNatClampNeg (((520 : Int32) * (M20.1 280 69)) + (M20.1 280 0)))) (wL M20 307 (Int32.toNatClampNeg (7 : Int32)) t19)) (fun _ M22 =>
          ck (ib 250 (((25 : Int32) * (M22.1 280 75)) + x3_18) && true) (
          qmd_weighs_L93 k231 n x1_16 x2_17 (x3_18 + (1 : Int32)) (wL M22 328 (Int32.toNatClampNeg (((25 : Int32) * (M22.1 280 75)) + x3_18)) (((((Int32.toInt64 x3_18) * (Int32.toInt64 (M22.1 280 74))) - (M22.2 280 54)) + (M22.2 280 55)) + (M22.2 280 56))))))) (fun j26 =>
      if 0 < x3 then
      (j26 x1 x2 x3 (0 : Int64) (wL (wL (wL (wL M 307 (Int32.toNatClampNeg (1 : Int32)) (Int32.toInt64 x3)) 307 (Int32.toNatClampNeg (2 : Int32)) (Int32.toInt64 (M.1 280 70))) 307 (Int32.toNatClampNeg (3 : Int32)) (Int32.toInt64 (x3 * (M.1 280 72)))) 307 (Int32.toNatClampNeg (4 : Int32)) (Int32.toInt64 (x3 * (M.1 280 73))))) else
      (j26 x1 x2 x3 (Int32.toInt64 x2) (wL (wL (wL (wL M 307 (Int32.toNatClampNeg (1 : Int32)) (Int32.toInt64 x3)) 307 (Int32.toNatClampNeg (2 : Int32)) (Int32.toInt64 (M.1 280 70))) 307 (Int32.toNatClampNeg (3 : Int32)) (Int32.toInt64 (x3 * (M.1 280 72)))) 307 (Int32.toNatClampNeg (4 : Int32)) (Int32.toInt64 (x3 * (M.1 280 73))))))))
def qmd_weighs_L7 : Nat → Int32 → SM → Option (Unit × SM)
  | 0, _, _ => none
  | n + 1, x1, M =>
    if x1 < (M.1 280 3) then
    (if (M.1 280 75) < (10 : Int32) then
      (ck (ib 16 x1 && true) (
        if (M.1 284 (Int32.toNatClampNeg x1)) = (M.1 280 69) then
        (ob (qmd_hirerOf x1 (M.1 280 0) M) (fun r2 M3 =>
          if r2 = (-1 : Int32) then
          (qmd_weighs_L7 n (x1 + (1 : Int32)) M3) else
          (ck (ib 10 (M3.1 280 75) && true) (
            ob (qmd_goesThrough x1 (M3.1 280 0) (wI M3 326 (Int32.toNatClampNeg (M3.1 280 75)) x1)) (fun _ M6 =>
            ob (qmd_idleAnew x1 (M6.1 280 0) M6) (fun r9 M10 =>
            ob (qmd_setsFacts x1 (M10.1 280 0) M10) (fun _ M12 =>
            qmd_weighs_L93 (fun y1_29 M30 =>
            qmd_weighs_L7 n (y1_29 + (1 : Int32)) (wI M30 280 75 ((M30.1 280 75) + (1 : Int32)))) FU x1 r9 (0 : Int32) M12))))))) else
        (qmd_weighs_L7 n (x1 + (1 : Int32)) M))) else
      (some ((), M))) else
    (some ((), M))
def qmd_weighs (M : SM) : Option (Unit × SM) :=
  qmd_weighs_L7 FU (0 : Int32) (wI M 280 75 (0 : Int32))
theorem mt_1266 : MT 1266 K_1266 LN_12 := ⟨rfl, rfl, by decide +kernel⟩
theorem okm_1266 : OKm 1266 := ⟨⟨vE_1266, okL_12, by decide +kernel⟩, by decide +kernel, by decide +kernel, by decide +kernel⟩
set_option maxRecDepth 20000 in
theorem qmd_weighs_L93_ok (d : Nat) (hd : 5 ≤ d + 1) (k231 : Int32 → SM → Option (Unit × SM)) (hk231 : ∀ (y1 : Int32) (M : SM) (r : Unit) (Mz : SM), k231 y1 M = some (r, Mz) → Rc (d + 1) 1266 (231, [.ref 280, .int y1, UU, UU], [], gm M) (none, gm Mz)) : ∀ (n : Nat) (x1 : Int32) (x2 : Int32) (x3 : Int32) (M : SM) (r : Unit) (Mz : SM), qmd_weighs_L93 k231 n x1 x2 x3 M = some (r, Mz) → Rc (d + 1) 1266 (93, [.ref 280, .int x1, .int x2, .int x3], [], gm M) (none, gm Mz) := by
  intro n
  induction n with
  | zero => intro x1 x2 x3 M r Mz hs; cases hs
  | succ n ih =>
    intro x1 x2 x3 M r Mz hs
    rw [qmd_weighs_L93] at hs
    by_cases h28 : (24 : Int32) < x3
    · rw [if_pos h28] at hs
      refine Rc.goL mt_1266 2 (f2 := (if (24 : Int32) < x3 then 231 else 99, [.ref 280, .int x1, .int x2, .int x3], [], gm M)) (b := true) rfl rfl ?_
      rw [if_pos h28]
      refine Rc.less (ls2 := [.ref 280, .int x1, UU, UU]) (by refine ⟨Or.inr rfl, Or.inr rfl, Or.inl rfl, Or.inl rfl, trivial⟩) ?_
      exact hk231 x1 _ _ _ hs
    · rw [if_neg h28] at hs
      refine Rc.goL mt_1266 2 (f2 := (if (24 : Int32) < x3 then 231 else 99, [.ref 280, .int x1, .int x2, .int x3], [], gm M)) (b := true) rfl rfl ?_
      rw [if_neg h28]
      obtain ⟨hb15, hs⟩ := ck_some hs
      obtain ⟨hb15_0, hb15⟩ := and_t hb15
      obtain ⟨hb15_1, hb15⟩ := and_t hb15
      obtain ⟨hb15_2, hb15⟩ := and_t hb15
      obtain ⟨hb15_3, hb15⟩ := and_t hb15
      refine Rc.goL mt_1266 5 (f2 := (107, [.ref 280, .int x1, .int x2, .int x3], [], gm (wL M 307 (Int32.toNatClampNeg (1 : Int32)) (Int32.toInt64 x3)))) (b := (ib 10 (1 : Int32) && true)) rfl (and_i hb15_0 rfl) ?_
      refine Rc.goL mt_1266 6 (f2 := (118, [.ref 280, .int x1, .int x2, .int x3], [], gm (wL (wL M 307 (Int32.toNatClampNeg (1 : Int32)) (Int32.toInt64 x3)) 307 (Int32.toNatClampNeg (2 : Int32)) (Int32.toInt64 (M.1 280 70))))) (b := (ib 10 (2 : Int32) && true)) rfl (and_i hb15_1 rfl) ?_
      refine Rc.goL mt_1266 6 (f2 := (129, [.ref 280, .int x1, .int x2, .int x3], [.int (x3 * (M.1 280 72)), .int (3 : Int32), .ref 307], gm (wL (wL M 307 (Int32.toNatClampNeg (1 : Int32)) (Int32.toInt64 x3)) 307 (Int32.toNatClampNeg (2 : Int32)) (Int32.toInt64 (M.1 280 70))))) (b := true) rfl rfl ?_
      refine Rc.goL mt_1266 1 (f2 := (131, [.ref 280, .int x1, .int x2, .int x3], [], gm (wL (wL (wL M 307 (Int32.toNatClampNeg (1 : Int32)) (Int32.toInt64 x3)) 307 (Int32.toNatClampNeg (2 : Int32)) (Int32.toInt64 (M.1 280 70))) 307 (Int32.toNatClampNeg (3 : Int32)) (Int32.toInt64 (x3 * (M.1 280 72)))))) (b := (ib 10 (3 : Int32) && true)) rfl (and_i hb15_2 rfl) ?_
      refine Rc.goL mt_1266 6 (f2 := (142, [.ref 280, .int x1, .int x2, .int x3], [.int (x3 * (M.1 280 73)), .int (4 : Int32), .ref 307], gm (wL (wL (wL M 307 (Int32.toNatClampNeg (1 : Int32)) (Int32.toInt64 x3)) 307 (Int32.toNatClampNeg (2 : Int32)) (Int32.toInt64 (M.1 280 70))) 307 (Int32.toNatClampNeg (3 : Int32)) (Int32.toInt64 (x3 * (M.1 280 72)))))) (b := true) rfl rfl ?_
      refine Rc.goL mt_1266 1 (f2 := (144, [.ref 280, .int x1, .int x2, .int x3], [], gm (wL (wL (wL (wL M 307 (Int32.toNatClampNeg (1 : Int32)) (Int32.toInt64 x3)) 307 (Int32.toNatClampNeg (2 : Int32)) (Int32.toInt64 (M.1 280 70))) 307 (Int32.toNatClampNeg (3 : Int32)) (Int32.toInt64 (x3 * (M.1 280 72)))) 307 (Int32.toNatClampNeg (4 : Int32)) (Int32.toInt64 (x3 * (M.1 280 73)))))) (b := (ib 10 (4 : Int32) && true)) rfl (and_i hb15_3 rfl) ?_
      refine jn_e (P := fun (j : Int32 → Int32 → Int32 → Int64 → SM → Option (Unit × SM)) => ∀ (x1_16 : Int32) (x2_17 : Int32) (x3_18 : Int32) (t19 : Int64) (M20 : SM) (r : Unit) (Mz : SM), j x1_16 x2_17 x3_18 t19 M20 = some (r, Mz) → Rc (d + 1) 1266 (160, [.ref 280, .int x1_16, .int x2_17, .int x3_18], [.long t19, .int (7 : Int32), .ref 307], gm M20) (none, gm Mz)) hs ?_ (fun j26 Hj26 hs => ?_)
      · intro x1_16 x2_17 x3_18 t19 M20 r Mz hs
        try dsimp only at hs
        obtain ⟨hb21, hs⟩ := ck_some hs
        obtain ⟨hb21_0, hb21⟩ := and_t hb21
        obtain ⟨hb21_1, hb21⟩ := and_t hb21
        refine Rc.goL mt_1266 0 (f2 := (161, [.ref 280, .int x1_16, .int x2_17, .int x3_18], [], gm (wL M20 307 (Int32.toNatClampNeg (7 : Int32)) t19))) (b := (ib 10 (7 : Int32) && true)) rfl (and_i hb21_0 rfl) ?_
        refine Rc.goL mt_1266 6 (f2 := (174, [.ref 280, .int x1_16, .int x2_17, .int x3_18], [.int (520 : Int32), .ref 287, .int (M20.1 280 0), .int x1_16, .ref 280], gm (wL M20 307 (Int32.toNatClampNeg (7 : Int32)) t19))) (b := true) rfl rfl ?_
        refine Rc.goL mt_1266 6 (f2 := (185, [.ref 280, .int x1_16, .int x2_17, .int x3_18], [.int (M20.1 287 (Int32.toNatClampNeg (((520 : Int32) * (M20.1 280 69)) + (M20.1 280 0)))), .int (M20.1 280 0), .int x1_16, .ref 280], gm (wL M20 307 (Int32.toNatClampNeg (7 : Int32)) t19))) (b := (ib 3120 (((520 : Int32) * (M20.1 280 69)) + (M20.1 280 0)) && true)) rfl (and_i hb21_1 rfl) ?_
        obtain ⟨u24, M22, he23, hs⟩ := ob_some hs
        refine Rc.callV (i := 383) (mid' := 1254) (av := [.int x1_16, .int (M20.1 280 0), .int (M20.1 287 (Int32.toNatClampNeg (((520 : Int32) * (M20.1 280 69)) + (M20.1 280 0))))]) (rest := []) (v := none) (M1 := gm M22) (a := 280) rfl rfl rfl cw_1254 rfl (Nat.le_of_ble_eq_true rfl) rfl (Nat.le_of_ble_eq_true rfl) (qmd_comesTo_ok _ (by omega) he23) ?_
        obtain ⟨hb25, hs⟩ := ck_some hs
        obtain ⟨hb25_0, hb25⟩ := and_t hb25
        refine Rc.goL mt_1266 6 (f2 := (200, [.ref 280, .int x1_16, .int x2_17, .int x3_18], [.int x3_18, .int ((25 : Int32) * (M22.1 280 75)), .ref 328], gm M22)) (b := true) rfl rfl ?_
        refine Rc.goL mt_1266 6 (f2 := (209, [.ref 280, .int x1_16, .int x2_17, .int x3_18], [.long ((Int32.toInt64 x3_18) * (Int32.toInt64 (M22.1 280 74))), .int (((25 : Int32) * (M22.1 280 75)) + x3_18), .ref 328], gm M22)) (b := true) rfl rfl ?_
        refine Rc.goL mt_1266 6 (f2 := (220, [.ref 280, .int x1_16, .int x2_17, .int x3_18], [.ref 280, .long ((((Int32.toInt64 x3_18) * (Int32.toInt64 (M22.1 280 74))) - (M22.2 280 54)) + (M22.2 280 55)), .int (((25 : Int32) * (M22.1 280 75)) + x3_18), .ref 328], gm M22)) (b := true) rfl rfl ?_
        refine Rc.goL mt_1266 2 (f2 := (225, [.ref 280, .int x1_16, .int x2_17, .int x3_18], [], gm (wL M22 328 (Int32.toNatClampNeg (((25 : Int32) * (M22.1 280 75)) + x3_18)) (((((Int32.toInt64 x3_18) * (Int32.toInt64 (M22.1 280 74))) - (M22.2 280 54)) + (M22.2 280 55)) + (M22.2 280 56))))) (b := (ib 250 (((25 : Int32) * (M22.1 280 75)) + x3_18) && true)) rfl (and_i hb25_0 rfl) ?_
        refine Rc.goL mt_1266 1 (f2 := (93, [.ref 280, .int x1_16, .int x2_17, .int (x3_18 + (1 : Int32))], [], gm (wL M22 328 (Int32.toNatClampNeg (((25 : Int32) * (M22.1 280 75)) + x3_18)) (((((Int32.toInt64 x3_18) * (Int32.toInt64 (M22.1 280 74))) - (M22.2 280 54)) + (M22.2 280 55)) + (M22.2 280 56))))) (b := true) rfl rfl ?_
        refine Rc.less (ls2 := [.ref 280, .int x1_16, .int x2_17, .int (x3_18 + (1 : Int32))]) (by refine ⟨Or.inr rfl, Or.inr rfl, Or.inr rfl, Or.inr rfl, trivial⟩) ?_
        exact ih x1_16 x2_17 (x3_18 + (1 : Int32)) _ _ _ hs
      by_cases h27 : 0 < x3
      · rw [if_pos h27] at hs
        refine Rc.goL mt_1266 4 (f2 := (if 0 < x3 then 154 else 158, [.ref 280, .int x1, .int x2, .int x3], [.int (7 : Int32), .ref 307], gm (wL (wL (wL (wL M 307 (Int32.toNatClampNeg (1 : Int32)) (Int32.toInt64 x3)) 307 (Int32.toNatClampNeg (2 : Int32)) (Int32.toInt64 (M.1 280 70))) 307 (Int32.toNatClampNeg (3 : Int32)) (Int32.toInt64 (x3 * (M.1 280 72)))) 307 (Int32.toNatClampNeg (4 : Int32)) (Int32.toInt64 (x3 * (M.1 280 73)))))) (b := true) rfl rfl ?_
        rw [if_pos h27]
        refine Rc.goL mt_1266 1 (f2 := (160, [.ref 280, .int x1, .int x2, .int x3], [.long (0 : Int64), .int (7 : Int32), .ref 307], gm (wL (wL (wL (wL M 307 (Int32.toNatClampNeg (1 : Int32)) (Int32.toInt64 x3)) 307 (Int32.toNatClampNeg (2 : Int32)) (Int32.toInt64 (M.1 280 70))) 307 (Int32.toNatClampNeg (3 : Int32)) (Int32.toInt64 (x3 * (M.1 280 72)))) 307 (Int32.toNatClampNeg (4 : Int32)) (Int32.toInt64 (x3 * (M.1 280 73)))))) (b := true) rfl rfl ?_
        refine Rc.less (ls2 := [.ref 280, .int x1, .int x2, .int x3]) (by refine ⟨Or.inr rfl, Or.inr rfl, Or.inr rfl, Or.inr rfl, trivial⟩) ?_
        exact Hj26 x1 x2 x3 (0 : Int64) _ _ _ hs
      · rw [if_neg h27] at hs
        refine Rc.goL mt_1266 4 (f2 := (if 0 < x3 then 154 else 158, [.ref 280, .int x1, .int x2, .int x3], [.int (7 : Int32), .ref 307], gm (wL (wL (wL (wL M 307 (Int32.toNatClampNeg (1 : Int32)) (Int32.toInt64 x3)) 307 (Int32.toNatClampNeg (2 : Int32)) (Int32.toInt64 (M.1 280 70))) 307 (Int32.toNatClampNeg (3 : Int32)) (Int32.toInt64 (x3 * (M.1 280 72)))) 307 (Int32.toNatClampNeg (4 : Int32)) (Int32.toInt64 (x3 * (M.1 280 73)))))) (b := true) rfl rfl ?_
        rw [if_neg h27]
        refine Rc.goL mt_1266 1 (f2 := (160, [.ref 280, .int x1, .int x2, .int x3], [.long (Int32.toInt64 x2), .int (7 : Int32), .ref 307], gm (wL (wL (wL (wL M 307 (Int32.toNatClampNeg (1 : Int32)) (Int32.toInt64 x3)) 307 (Int32.toNatClampNeg (2 : Int32)) (Int32.toInt64 (M.1 280 70))) 307 (Int32.toNatClampNeg (3 : Int32)) (Int32.toInt64 (x3 * (M.1 280 72)))) 307 (Int32.toNatClampNeg (4 : Int32)) (Int32.toInt64 (x3 * (M.1 280 73)))))) (b := true) rfl rfl ?_
        refine Rc.less (ls2 := [.ref 280, .int x1, .int x2, .int x3]) (by refine ⟨Or.inr rfl, Or.inr rfl, Or.inr rfl, Or.inr rfl, trivial⟩) ?_
        exact Hj26 x1 x2 x3 (Int32.toInt64 x2) _ _ _ hs
set_option maxRecDepth 20000 in
theorem qmd_weighs_L7_ok (d : Nat) (hd : 5 ≤ d + 1) : ∀ (n : Nat) (x1 : Int32) (M : SM) (r : Unit) (Mz : SM), qmd_weighs_L7 n x1 M = some (r, Mz) → Rc (d + 1) 1266 (7, [.ref 280, .int x1, UU, UU], [], gm M) (none, gm Mz) := by
  intro n
  induction n with
  | zero => intro x1 M r Mz hs; cases hs
  | succ n ih =>
    intro x1 M r Mz hs
    rw [qmd_weighs_L7] at hs
    by_cases h34 : x1 < (M.1 280 3)
    · rw [if_pos h34] at hs
      refine Rc.goL mt_1266 3 (f2 := (if x1 < (M.1 280 3) then 15 else 247, [.ref 280, .int x1, UU, UU], [], gm M)) (b := true) rfl rfl ?_
      rw [if_pos h34]
      by_cases h33 : (M.1 280 75) < (10 : Int32)
      · rw [if_pos h33] at hs
        refine Rc.goL mt_1266 3 (f2 := (if (M.1 280 75) < (10 : Int32) then 24 else 247, [.ref 280, .int x1, UU, UU], [], gm M)) (b := true) rfl rfl ?_
        rw [if_pos h33]
        obtain ⟨hb1, hs⟩ := ck_some hs
        by_cases h32 : (M.1 284 (Int32.toNatClampNeg x1)) = (M.1 280 69)
        · rw [if_pos h32] at hs
          refine Rc.goL mt_1266 6 (f2 := (if (M.1 284 (Int32.toNatClampNeg x1)) = (M.1 280 69) then 37 else 241, [.ref 280, .int x1, UU, UU], [], gm M)) (b := (ib 16 x1 && true)) rfl hb1 ?_
          rw [if_pos h32]
          refine Rc.goL mt_1266 3 (f2 := (43, [.ref 280, .int x1, UU, UU], [.int (M.1 280 0), .int x1, .ref 280], gm M)) (b := true) rfl rfl ?_
          obtain ⟨r2, M3, he4, hs⟩ := ob_some hs
          refine Rc.callV (i := 208) (mid' := 1210) (av := [.int x1, .int (M.1 280 0)]) (rest := []) (v := some (.int r2)) (M1 := gm M3) (a := 280) rfl rfl rfl cw_1210 rfl (Nat.le_of_ble_eq_true rfl) rfl (Nat.le_of_ble_eq_true rfl) (qmd_hirerOf_ok _ (by omega) he4) ?_
          by_cases h31 : r2 = (-1 : Int32)
          · rw [if_pos h31] at hs
            refine Rc.goL mt_1266 1 (f2 := (if r2 = (-1 : Int32) then 50 else 53, [.ref 280, .int x1, UU, UU], [], gm M3)) (b := true) rfl rfl ?_
            rw [if_pos h31]
            refine Rc.goL mt_1266 0 (f2 := (241, [.ref 280, .int x1, UU, UU], [], gm M3)) (b := true) rfl rfl ?_
            refine Rc.goL mt_1266 1 (f2 := (7, [.ref 280, .int (x1 + (1 : Int32)), UU, UU], [], gm M3)) (b := true) rfl rfl ?_
            refine Rc.less (ls2 := [.ref 280, .int (x1 + (1 : Int32)), UU, UU]) (by refine ⟨Or.inr rfl, Or.inr rfl, Or.inl rfl, Or.inl rfl, trivial⟩) ?_
            exact ih (x1 + (1 : Int32)) _ _ _ hs
          · rw [if_neg h31] at hs
            refine Rc.goL mt_1266 1 (f2 := (if r2 = (-1 : Int32) then 50 else 53, [.ref 280, .int x1, UU, UU], [], gm M3)) (b := true) rfl rfl ?_
            rw [if_neg h31]
            obtain ⟨hb5, hs⟩ := ck_some hs
            obtain ⟨hb5_0, hb5⟩ := and_t hb5
            refine Rc.goL mt_1266 5 (f2 := (63, [.ref 280, .int x1, UU, UU], [], gm (wI M3 326 (Int32.toNatClampNeg (M3.1 280 75)) x1))) (b := (ib 10 (M3.1 280 75) && true)) rfl (and_i hb5_0 rfl) ?_
            refine Rc.goL mt_1266 3 (f2 := (69, [.ref 280, .int x1, UU, UU], [.int (M3.1 280 0), .int x1, .ref 280], gm (wI M3 326 (Int32.toNatClampNeg (M3.1 280 75)) x1))) (b := true) rfl rfl ?_
            obtain ⟨u8, M6, he7, hs⟩ := ob_some hs
            refine Rc.callV (i := 389) (mid' := 1250) (av := [.int x1, .int (M3.1 280 0)]) (rest := []) (v := none) (M1 := gm M6) (a := 280) rfl rfl rfl cw_1250 rfl (Nat.le_of_ble_eq_true rfl) rfl (Nat.le_of_ble_eq_true rfl) (qmd_goesThrough_ok _ (by omega) he7) ?_
            refine Rc.goL mt_1266 3 (f2 := (78, [.ref 280, .int x1, UU, UU], [.int (M6.1 280 0), .int x1, .ref 280], gm M6)) (b := true) rfl rfl ?_
            obtain ⟨r9, M10, he11, hs⟩ := ob_some hs
            refine Rc.callV (i := 351) (mid' := 1251) (av := [.int x1, .int (M6.1 280 0)]) (rest := []) (v := some (.int r9)) (M1 := gm M10) (a := 280) rfl rfl rfl cw_1251 rfl (Nat.le_of_ble_eq_true rfl) rfl (Nat.le_of_ble_eq_true rfl) (qmd_idleAnew_ok _ (by omega) he11) ?_
            refine Rc.goL mt_1266 4 (f2 := (88, [.ref 280, .int x1, .int r9, UU], [.int (M10.1 280 0), .int x1, .ref 280], gm M10)) (b := true) rfl rfl ?_
            obtain ⟨u14, M12, he13, hs⟩ := ob_some hs
            refine Rc.callV (i := 380) (mid' := 1253) (av := [.int x1, .int (M10.1 280 0)]) (rest := []) (v := none) (M1 := gm M12) (a := 280) rfl rfl rfl cw_1253 rfl (Nat.le_of_ble_eq_true rfl) rfl (Nat.le_of_ble_eq_true rfl) (qmd_setsFacts_ok _ (by omega) he13) ?_
            refine Rc.goL mt_1266 1 (f2 := (93, [.ref 280, .int x1, .int r9, .int (0 : Int32)], [], gm M12)) (b := true) rfl rfl ?_
            refine Rc.less (ls2 := [.ref 280, .int x1, .int r9, .int (0 : Int32)]) (by refine ⟨Or.inr rfl, Or.inr rfl, Or.inr rfl, Or.inr rfl, trivial⟩) ?_
            refine qmd_weighs_L93_ok d hd _ (fun y1_29 M30 r Mz hs => ?_) _ x1 r9 (0 : Int32) _ _ _ hs
            · refine Rc.goL mt_1266 5 (f2 := (241, [.ref 280, .int y1_29, UU, UU], [], gm (wI M30 280 75 ((M30.1 280 75) + (1 : Int32))))) (b := true) rfl rfl ?_
              refine Rc.goL mt_1266 1 (f2 := (7, [.ref 280, .int (y1_29 + (1 : Int32)), UU, UU], [], gm (wI M30 280 75 ((M30.1 280 75) + (1 : Int32))))) (b := true) rfl rfl ?_
              refine Rc.less (ls2 := [.ref 280, .int (y1_29 + (1 : Int32)), UU, UU]) (by refine ⟨Or.inr rfl, Or.inr rfl, Or.inl rfl, Or.inl rfl, trivial⟩) ?_
              exact ih (y1_29 + (1 : Int32)) _ _ _ hs
        · rw [if_neg h32] at hs
          refine Rc.goL mt_1266 6 (f2 := (if (M.1 284 (Int32.toNatClampNeg x1)) = (M.1 280 69) then 37 else 241, [.ref 280, .int x1, UU, UU], [], gm M)) (b := (ib 16 x1 && true)) rfl hb1 ?_
          rw [if_neg h32]
          refine Rc.goL mt_1266 1 (f2 := (7, [.ref 280, .int (x1 + (1 : Int32)), UU, UU], [], gm M)) (b := true) rfl rfl ?_
          refine Rc.less (ls2 := [.ref 280, .int (x1 + (1 : Int32)), UU, UU]) (by refine ⟨Or.inr rfl, Or.inr rfl, Or.inl rfl, Or.inl rfl, trivial⟩) ?_
          exact ih (x1 + (1 : Int32)) _ _ _ hs
      · rw [if_neg h33] at hs
        refine Rc.goL mt_1266 3 (f2 := (if (M.1 280 75) < (10 : Int32) then 24 else 247, [.ref 280, .int x1, UU, UU], [], gm M)) (b := true) rfl rfl ?_
        rw [if_neg h33]
        obtain ⟨e1, e2⟩ := some_p hs; subst e1; subst e2
        exact Rc.ret (v := none) rfl rfl
    · rw [if_neg h34] at hs
      refine Rc.goL mt_1266 3 (f2 := (if x1 < (M.1 280 3) then 15 else 247, [.ref 280, .int x1, UU, UU], [], gm M)) (b := true) rfl rfl ?_
      rw [if_neg h34]
      obtain ⟨e1, e2⟩ := some_p hs; subst e1; subst e2
      exact Rc.ret (v := none) rfl rfl
set_option maxRecDepth 20000 in
theorem qmd_weighs_ok (d : Nat) (hd : 5 ≤ d) {M : SM} {r : Unit} {Mz : SM} (hs : qmd_weighs M = some (r, Mz)) : Ex d 1266 [.ref 280] (gm M) (none, gm Mz) := by
  obtain ⟨d, rfl⟩ : ∃ d0, d = d0 + 1 := ⟨d - 1, by omega⟩
  refine Ex.of okm_1266 (by omega) (Nat.le_of_ble_eq_true rfl) ?_
  show Rc (d + 1) 1266 (0, [.ref 280, UU, UU, UU], [], gm M) _
  unfold qmd_weighs at hs
  refine Rc.goL mt_1266 2 (f2 := (5, [.ref 280, UU, UU, UU], [], gm (wI M 280 75 (0 : Int32)))) (b := true) rfl rfl ?_
  refine Rc.goL mt_1266 1 (f2 := (7, [.ref 280, .int (0 : Int32), UU, UU], [], gm (wI M 280 75 (0 : Int32)))) (b := true) rfl rfl ?_
  refine Rc.less (ls2 := [.ref 280, .int (0 : Int32), UU, UU]) (by refine ⟨Or.inr rfl, Or.inr rfl, Or.inl rfl, Or.inl rfl, trivial⟩) ?_
  exact qmd_weighs_L7_ok d hd _ (0 : Int32) _ _ _ hs
def qmd_bestOf_L7 : Nat → Int32 → Int32 → Int64 → Int32 → SM → Option (Int64 × SM)
  | 0, _, _, _, _, _ => none
  | n + 1, x1, x2, x3, x5, M =>
    if (24 : Int32) < x5 then
    (some (x3, M)) else
    (if x2 < x5 then
      (some (x3, M)) else
      (ck (ib 671 ((((61 : Int32) * (x1 + (1 : Int32))) + x2) - x5) && true) (
        lt (M.2 329 (Int32.toNatClampNeg ((((61 : Int32) * (x1 + (1 : Int32))) + x2) - x5))) (fun (z2 : Int64) =>
        if (lg_cmp z2 (-1000000000000000 : Int64)) = 0 then
        (qmd_bestOf_L7 n x1 x2 x3 (x5 + (1 : Int32)) M) else
        (ck (ib 250 (((25 : Int32) * x1) + x5) && true) (
          lt ((M.2 328 (Int32.toNatClampNeg (((25 : Int32) * x1) + x5))) + z2) (fun (z4 : Int64) =>
          if 0 < (lg_cmp z4 x3) then
          (qmd_bestOf_L7 n x1 x2 z4 (x5 + (1 : Int32)) M) else
          (qmd_bestOf_L7 n x1 x2 x3 (x5 + (1 : Int32)) M))))))))
def qmd_bestOf (x1 : Int32) (x2 : Int32) (M : SM) : Option (Int64 × SM) :=
  qmd_bestOf_L7 FU x1 x2 (-1000000000000000 : Int64) (0 : Int32) M
theorem mt_1268 : MT 1268 K_1268 LN_12 := ⟨rfl, rfl, by decide +kernel⟩
theorem okm_1268 : OKm 1268 := ⟨⟨vE_1268, okL_12, by decide +kernel⟩, by decide +kernel, by decide +kernel, by decide +kernel⟩
set_option maxRecDepth 20000 in
theorem qmd_bestOf_L7_ok (d : Nat) (hd : 1 ≤ d + 1) : ∀ (n : Nat) (x1 : Int32) (x2 : Int32) (x3 : Int64) (x5 : Int32) (M : SM) (r : Int64) (Mz : SM), qmd_bestOf_L7 n x1 x2 x3 x5 M = some (r, Mz) → Rc (d + 1) 1268 (7, [.ref 280, .int x1, .int x2, .long x3, UU, .int x5, UU, UU, UU, UU], [], gm M) (some (.long r), gm Mz) := by
  intro n
  induction n with
  | zero => intro x1 x2 x3 x5 M r Mz hs; cases hs
  | succ n ih =>
    intro x1 x2 x3 x5 M r Mz hs
    rw [qmd_bestOf_L7] at hs
    by_cases h8 : (24 : Int32) < x5
    · rw [if_pos h8] at hs
      refine Rc.goL mt_1268 2 (f2 := (if (24 : Int32) < x5 then 87 else 14, [.ref 280, .int x1, .int x2, .long x3, UU, .int x5, UU, UU, UU, UU], [], gm M)) (b := true) rfl rfl ?_
      rw [if_pos h8]
      refine Rc.goL mt_1268 0 (f2 := (88, [.ref 280, .int x1, .int x2, .long x3, UU, .int x5, UU, UU, UU, UU], [.long x3], gm M)) (b := true) rfl rfl ?_
      obtain ⟨e1, e2⟩ := some_p hs; subst e1; subst e2
      exact Rc.ret (v := some (.long x3)) rfl rfl
    · rw [if_neg h8] at hs
      refine Rc.goL mt_1268 2 (f2 := (if (24 : Int32) < x5 then 87 else 14, [.ref 280, .int x1, .int x2, .long x3, UU, .int x5, UU, UU, UU, UU], [], gm M)) (b := true) rfl rfl ?_
      rw [if_neg h8]
      by_cases h7 : x2 < x5
      · rw [if_pos h7] at hs
        refine Rc.goL mt_1268 2 (f2 := (if x2 < x5 then 87 else 20, [.ref 280, .int x1, .int x2, .long x3, UU, .int x5, UU, UU, UU, UU], [], gm M)) (b := true) rfl rfl ?_
        rw [if_pos h7]
        refine Rc.goL mt_1268 0 (f2 := (88, [.ref 280, .int x1, .int x2, .long x3, UU, .int x5, UU, UU, UU, UU], [.long x3], gm M)) (b := true) rfl rfl ?_
        obtain ⟨e1, e2⟩ := some_p hs; subst e1; subst e2
        exact Rc.ret (v := some (.long x3)) rfl rfl
      · rw [if_neg h7] at hs
        refine Rc.goL mt_1268 2 (f2 := (if x2 < x5 then 87 else 20, [.ref 280, .int x1, .int x2, .long x3, UU, .int x5, UU, UU, UU, UU], [], gm M)) (b := true) rfl rfl ?_
        rw [if_neg h7]
        obtain ⟨hb1, hs⟩ := ck_some hs
        obtain ⟨hb1_0, hb1⟩ := and_t hb1
        refine Rc.goL mt_1268 6 (f2 := (30, [.ref 280, .int x1, .int x2, .long x3, UU, .int x5, UU, UU, UU, UU], [.int ((61 : Int32) * (x1 + (1 : Int32))), .ref 329], gm M)) (b := true) rfl rfl ?_
        refine lt_g hs (fun z2 Hz2 hs => ?_)
        refine Rc.goL mt_1268 5 (f2 := (38, [.ref 280, .int x1, .int x2, .long x3, UU, .int x5, .long z2, UU, UU, UU], [], gm M)) (b := (ib 671 ((((61 : Int32) * (x1 + (1 : Int32))) + x2) - x5) && true)) (by subst Hz2; rfl) (and_i hb1_0 rfl) ?_
        by_cases h6 : (lg_cmp z2 (-1000000000000000 : Int64)) = 0
        · rw [if_pos h6] at hs
          refine Rc.goL mt_1268 3 (f2 := (if (lg_cmp z2 (-1000000000000000 : Int64)) = 0 then 47 else 50, [.ref 280, .int x1, .int x2, .long x3, UU, .int x5, .long z2, UU, UU, UU], [], gm M)) (b := true) rfl rfl ?_
          rw [if_pos h6]
          refine Rc.goL mt_1268 0 (f2 := (81, [.ref 280, .int x1, .int x2, .long x3, UU, .int x5, .long z2, UU, UU, UU], [], gm M)) (b := true) rfl rfl ?_
          refine Rc.goL mt_1268 1 (f2 := (7, [.ref 280, .int x1, .int x2, .long x3, UU, .int (x5 + (1 : Int32)), .long z2, UU, UU, UU], [], gm M)) (b := true) rfl rfl ?_
          refine Rc.less (ls2 := [.ref 280, .int x1, .int x2, .long x3, UU, .int (x5 + (1 : Int32)), UU, UU, UU, UU]) (by refine ⟨Or.inr rfl, Or.inr rfl, Or.inr rfl, Or.inr rfl, Or.inl rfl, Or.inr rfl, Or.inl rfl, Or.inl rfl, Or.inl rfl, Or.inl rfl, trivial⟩) ?_
          exact ih x1 x2 x3 (x5 + (1 : Int32)) _ _ _ hs
        · rw [if_neg h6] at hs
          refine Rc.goL mt_1268 3 (f2 := (if (lg_cmp z2 (-1000000000000000 : Int64)) = 0 then 47 else 50, [.ref 280, .int x1, .int x2, .long x3, UU, .int x5, .long z2, UU, UU, UU], [], gm M)) (b := true) rfl rfl ?_
          rw [if_neg h6]
          obtain ⟨hb3, hs⟩ := ck_some hs
          obtain ⟨hb3_0, hb3⟩ := and_t hb3
          refine Rc.goL mt_1268 6 (f2 := (61, [.ref 280, .int x1, .int x2, .long x3, UU, .int x5, .long z2, UU, UU, UU], [.int (((25 : Int32) * x1) + x5), .ref 328], gm M)) (b := true) rfl rfl ?_
          refine lt_g hs (fun z4 Hz4 hs => ?_)
          refine Rc.goL mt_1268 3 (f2 := (67, [.ref 280, .int x1, .int x2, .long x3, UU, .int x5, .long z2, UU, .long z4, UU], [], gm M)) (b := (ib 250 (((25 : Int32) * x1) + x5) && true)) (by subst Hz4; rfl) (and_i hb3_0 rfl) ?_
          by_cases h5 : 0 < (lg_cmp z4 x3)
          · rw [if_pos h5] at hs
            refine Rc.goL mt_1268 3 (f2 := (if 0 < (lg_cmp z4 x3) then 74 else 79, [.ref 280, .int x1, .int x2, .long x3, UU, .int x5, .long z2, UU, .long z4, UU], [], gm M)) (b := true) rfl rfl ?_
            rw [if_pos h5]
            refine Rc.goL mt_1268 1 (f2 := (80, [.ref 280, .int x1, .int x2, .long x3, UU, .int x5, .long z2, UU, .long z4, UU], [.long z4], gm M)) (b := true) rfl rfl ?_
            refine Rc.goL mt_1268 0 (f2 := (81, [.ref 280, .int x1, .int x2, .long z4, UU, .int x5, .long z2, UU, .long z4, UU], [], gm M)) (b := true) rfl rfl ?_
            refine Rc.goL mt_1268 1 (f2 := (7, [.ref 280, .int x1, .int x2, .long z4, UU, .int (x5 + (1 : Int32)), .long z2, UU, .long z4, UU], [], gm M)) (b := true) rfl rfl ?_
            refine Rc.less (ls2 := [.ref 280, .int x1, .int x2, .long z4, UU, .int (x5 + (1 : Int32)), UU, UU, UU, UU]) (by refine ⟨Or.inr rfl, Or.inr rfl, Or.inr rfl, Or.inr rfl, Or.inl rfl, Or.inr rfl, Or.inl rfl, Or.inl rfl, Or.inl rfl, Or.inl rfl, trivial⟩) ?_
            exact ih x1 x2 z4 (x5 + (1 : Int32)) _ _ _ hs
          · rw [if_neg h5] at hs
            refine Rc.goL mt_1268 3 (f2 := (if 0 < (lg_cmp z4 x3) then 74 else 79, [.ref 280, .int x1, .int x2, .long x3, UU, .int x5, .long z2, UU, .long z4, UU], [], gm M)) (b := true) rfl rfl ?_
            rw [if_neg h5]
            refine Rc.goL mt_1268 0 (f2 := (80, [.ref 280, .int x1, .int x2, .long x3, UU, .int x5, .long z2, UU, .long z4, UU], [.long x3], gm M)) (b := true) rfl rfl ?_
            refine Rc.goL mt_1268 0 (f2 := (81, [.ref 280, .int x1, .int x2, .long x3, UU, .int x5, .long z2, UU, .long z4, UU], [], gm M)) (b := true) rfl rfl ?_
            refine Rc.goL mt_1268 1 (f2 := (7, [.ref 280, .int x1, .int x2, .long x3, UU, .int (x5 + (1 : Int32)), .long z2, UU, .long z4, UU], [], gm M)) (b := true) rfl rfl ?_
            refine Rc.less (ls2 := [.ref 280, .int x1, .int x2, .long x3, UU, .int (x5 + (1 : Int32)), UU, UU, UU, UU]) (by refine ⟨Or.inr rfl, Or.inr rfl, Or.inr rfl, Or.inr rfl, Or.inl rfl, Or.inr rfl, Or.inl rfl, Or.inl rfl, Or.inl rfl, Or.inl rfl, trivial⟩) ?_
            exact ih x1 x2 x3 (x5 + (1 : Int32)) _ _ _ hs
set_option maxRecDepth 20000 in
theorem qmd_bestOf_ok (d : Nat) (hd : 1 ≤ d) {x1 : Int32} {x2 : Int32} {M : SM} {r : Int64} {Mz : SM} (hs : qmd_bestOf x1 x2 M = some (r, Mz)) : Ex d 1268 [.ref 280, .int x1, .int x2] (gm M) (some (.long r), gm Mz) := by
  obtain ⟨d, rfl⟩ : ∃ d0, d = d0 + 1 := ⟨d - 1, by omega⟩
  refine Ex.of okm_1268 (by omega) (Nat.le_of_ble_eq_true rfl) ?_
  show Rc (d + 1) 1268 (0, [.ref 280, .int x1, .int x2, UU, UU, UU, UU, UU, UU, UU], [], gm M) _
  unfold qmd_bestOf at hs
  refine Rc.goL mt_1268 3 (f2 := (7, [.ref 280, .int x1, .int x2, .long (-1000000000000000 : Int64), UU, .int (0 : Int32), UU, UU, UU, UU], [], gm M)) (b := true) rfl rfl ?_
  refine Rc.less (ls2 := [.ref 280, .int x1, .int x2, .long (-1000000000000000 : Int64), UU, .int (0 : Int32), UU, UU, UU, UU]) (by refine ⟨Or.inr rfl, Or.inr rfl, Or.inr rfl, Or.inr rfl, Or.inl rfl, Or.inr rfl, Or.inl rfl, Or.inl rfl, Or.inl rfl, Or.inl rfl, trivial⟩) ?_
  exact qmd_bestOf_L7_ok d hd _ x1 x2 (-1000000000000000 : Int64) (0 : Int32) _ _ _ hs
def qmd_spread_L126 (k166 : Int32 → SM → Option (Int64 × SM)) : Nat → Int32 → Int32 → SM → Option (Int64 × SM)
  | 0, _, _, _ => none
  | n + 1, x3, x7, M =>
    if (60 : Int32) < x7 then
    (k166 x3 M) else
    (if x7 = 0 then
      (ck (ib 671 (((61 : Int32) * (M.1 280 75)) + x7) && true) (
        qmd_spread_L126 k166 n x3 (x7 + (1 : Int32)) (wL M 329 (Int32.toNatClampNeg (((61 : Int32) * (M.1 280 75)) + x7)) (0 : Int64)))) else
      (ck (ib 671 (((61 : Int32) * (M.1 280 75)) + x7) && true) (
        qmd_spread_L126 k166 n x3 (x7 + (1 : Int32)) (wL M 329 (Int32.toNatClampNeg (((61 : Int32) * (M.1 280 75)) + x7)) (-1000000000000000 : Int64)))))
def qmd_spread_L182 (k215 : Int32 → Int32 → SM → Option (Int64 × SM)) : Nat → Int32 → Int32 → Int32 → SM → Option (Int64 × SM)
  | 0, _, _, _, _ => none
  | n + 1, x3, x7, x8, M =>
    if x3 < x8 then
    (k215 x3 x7 M) else
    (ob (qmd_bestOf x7 x8 M) (fun r28 M29 =>
      ck (ib 671 (((61 : Int32) * x7) + x8) && true) (
      qmd_spread_L182 k215 n x3 x7 (x8 + (1 : Int32)) (wL M29 329 (Int32.toNatClampNeg (((61 : Int32) * x7) + x8)) r28))))
def qmd_spread_L174 (k221 : Int32 → SM → Option (Int64 × SM)) : Nat → Int32 → Int32 → SM → Option (Int64 × SM)
  | 0, _, _, _ => none
  | n + 1, x3, x7, M =>
    if x7 < 0 then
    (k221 x3 M) else
    (qmd_spread_L182 (fun y3_33 y7_34 M35 =>
      qmd_spread_L174 k221 n y3_33 (y7_34 + (-1 : Int32)) M35) FU x3 x7 (0 : Int32) M)
def qmd_spread_L224 (k245 : Int32 → SM → Option (Int64 × SM)) : Nat → Int32 → Int32 → SM → Option (Int64 × SM)
  | 0, _, _, _ => none
  | n + 1, x3, x7, M =>
    if x7 < (16 : Int32) then
    (ck (ib 16 x7 && true) (
      qmd_spread_L224 k245 n x3 (x7 + (1 : Int32)) (wI M 327 (Int32.toNatClampNeg x7) (0 : Int32)))) else
    (k245 x3 M)
def qmd_spread_L263 (k321 : Int32 → Int32 → Int32 → Int32 → SM → Option (Int64 × SM)) : Nat → Int32 → Int32 → Int32 → Int32 → SM → Option (Int64 × SM)
  | 0, _, _, _, _, _ => none
  | n + 1, x3, x7, x8, x9, M =>
    ck (ib 250 (((25 : Int32) * x8) + x9) && (ib 671 ((((61 : Int32) * (x8 + (1 : Int32))) + x7) - x9) && (ib 671 (((61 : Int32) * x8) + x7) && true))) (
    if (lg_cmp ((M.2 328 (Int32.toNatClampNeg (((25 : Int32) * x8) + x9))) + (M.2 329 (Int32.toNatClampNeg ((((61 : Int32) * (x8 + (1 : Int32))) + x7) - x9)))) (M.2 329 (Int32.toNatClampNeg (((61 : Int32) * x8) + x7)))) = 0 then
    (k321 x3 x7 x8 x9 M) else
    (qmd_spread_L263 k321 n x3 x7 x8 (x9 + (1 : Int32)) M))
def qmd_spread_L251 : Nat → Int32 → Int32 → Int32 → SM → Option (Int64 × SM)
  | 0, _, _, _, _ => none
  | n + 1, x3, x7, x8, M =>
    if x8 < (M.1 280 75) then
    (qmd_spread_L263 (fun y3_45 y7_46 y8_47 y9_48 M49 =>
      ck (ib 10 y8_47 && (ib 16 (M49.1 326 (Int32.toNatClampNeg y8_47)) && true)) (
        qmd_spread_L251 n y3_45 (y7_46 - y9_48) (y8_47 + (1 : Int32)) (wI M49 327 (Int32.toNatClampNeg (M49.1 326 (Int32.toNatClampNeg y8_47))) y9_48))) FU x3 x7 x8 (0 : Int32) M) else
    (ck (ib 671 x3 && true) (
      some ((M.2 329 (Int32.toNatClampNeg x3)), M)))
def qmd_spread (x1 : Int32) (x2 : Int32) (x3 : Int32) (x4 : Int32) (x5 : Int32) (x6 : Int32) (M : SM) : Option (Int64 × SM) :=
  ob (qmd_isMaster x1 M) (fun r1 M2 =>
  if r1 = 0 then
  (some ((-1000000000000 : Int64), M2)) else
  (ob (qmd_in x2 (0 : Int32) (9 : Int32) M2) (fun r4 M5 =>
    if r4 = 0 then
    (some ((-1000000000000 : Int64), M5)) else
    (ob (qmd_in x3 (0 : Int32) (60 : Int32) M5) (fun r7 M8 =>
      if r7 = 0 then
      (some ((-1000000000000 : Int64), M8)) else
      (ob (qmd_in x4 (0 : Int32) (40 : Int32) M8) (fun r10 M11 =>
        if r10 = 0 then
        (some ((-1000000000000 : Int64), M11)) else
        (ob (qmd_in x5 (0 : Int32) (99 : Int32) M11) (fun r13 M14 =>
          if r13 = 0 then
          (some ((-1000000000000 : Int64), M14)) else
          (ob (qmd_in x6 (0 : Int32) (100000 : Int32) M14) (fun r16 M17 =>
            if r16 = 0 then
            (some ((-1000000000000 : Int64), M17)) else
            (ob (qmd_weighs (wI (wI (wI (wI (wI (wI (wI M17 280 68 (1 : Int32)) 280 69 x1) 280 70 x2) 280 71 x3) 280 72 x4) 280 73 x5) 280 74 x6)) (fun _ M19 =>
              if ((24 : Int32) * (M19.1 280 75)) < x3 then
              (some ((-1000000000000 : Int64), M19)) else
              (qmd_spread_L126 (fun y3_26 M27 =>
                qmd_spread_L174 (fun y3_37 M38 =>
                  qmd_spread_L224 (fun y3_41 M42 =>
                    qmd_spread_L251 FU y3_41 y3_41 (0 : Int32) M42) FU y3_37 (0 : Int32) M38) FU y3_26 ((M27.1 280 75) - (1 : Int32)) M27) FU x3 (0 : Int32) M19))))))))))))))
theorem mt_1267 : MT 1267 K_1267 LN_12 := ⟨rfl, rfl, by decide +kernel⟩
theorem okm_1267 : OKm 1267 := ⟨⟨vE_1267, okL_12, by decide +kernel⟩, by decide +kernel, by decide +kernel, by decide +kernel⟩
set_option maxRecDepth 20000 in
theorem qmd_spread_L126_ok (d : Nat) (hd : 6 ≤ d + 1) (k166 : Int32 → SM → Option (Int64 × SM)) (hk166 : ∀ (y3 : Int32) (M : SM) (r : Int64) (Mz : SM), k166 y3 M = some (r, Mz) → Rc (d + 1) 1267 (166, [.ref 280, UU, UU, .int y3, UU, UU, UU, UU, UU, UU], [], gm M) (some (.long r), gm Mz)) : ∀ (n : Nat) (x3 : Int32) (x7 : Int32) (M : SM) (r : Int64) (Mz : SM), qmd_spread_L126 k166 n x3 x7 M = some (r, Mz) → Rc (d + 1) 1267 (126, [.ref 280, UU, UU, .int x3, UU, UU, UU, .int x7, UU, UU], [], gm M) (some (.long r), gm Mz) := by
  intro n
  induction n with
  | zero => intro x3 x7 M r Mz hs; cases hs
  | succ n ih =>
    intro x3 x7 M r Mz hs
    rw [qmd_spread_L126] at hs
    by_cases h25 : (60 : Int32) < x7
    · rw [if_pos h25] at hs
      refine Rc.goL mt_1267 2 (f2 := (if (60 : Int32) < x7 then 166 else 133, [.ref 280, UU, UU, .int x3, UU, UU, UU, .int x7, UU, UU], [], gm M)) (b := true) rfl rfl ?_
      rw [if_pos h25]
      refine Rc.less (ls2 := [.ref 280, UU, UU, .int x3, UU, UU, UU, UU, UU, UU]) (by refine ⟨Or.inr rfl, Or.inl rfl, Or.inl rfl, Or.inr rfl, Or.inl rfl, Or.inl rfl, Or.inl rfl, Or.inl rfl, Or.inl rfl, Or.inl rfl, trivial⟩) ?_
      exact hk166 x3 _ _ _ hs
    · rw [if_neg h25] at hs
      refine Rc.goL mt_1267 2 (f2 := (if (60 : Int32) < x7 then 166 else 133, [.ref 280, UU, UU, .int x3, UU, UU, UU, .int x7, UU, UU], [], gm M)) (b := true) rfl rfl ?_
      rw [if_neg h25]
      refine Rc.goL mt_1267 6 (f2 := (146, [.ref 280, UU, UU, .int x3, UU, UU, UU, .int x7, UU, UU], [.int x7, .int ((61 : Int32) * (M.1 280 75)), .ref 329], gm M)) (b := true) rfl rfl ?_
      by_cases h24 : x7 = 0
      · rw [if_pos h24] at hs
        refine Rc.goL mt_1267 2 (f2 := (if x7 = 0 then 152 else 156, [.ref 280, UU, UU, .int x3, UU, UU, UU, .int x7, UU, UU], [.int (((61 : Int32) * (M.1 280 75)) + x7), .ref 329], gm M)) (b := true) rfl rfl ?_
        rw [if_pos h24]
        refine Rc.goL mt_1267 1 (f2 := (159, [.ref 280, UU, UU, .int x3, UU, UU, UU, .int x7, UU, UU], [.long (0 : Int64), .int (((61 : Int32) * (M.1 280 75)) + x7), .ref 329], gm M)) (b := true) rfl rfl ?_
        obtain ⟨hb22, hs⟩ := ck_some hs
        obtain ⟨hb22_0, hb22⟩ := and_t hb22
        refine Rc.goL mt_1267 0 (f2 := (160, [.ref 280, UU, UU, .int x3, UU, UU, UU, .int x7, UU, UU], [], gm (wL M 329 (Int32.toNatClampNeg (((61 : Int32) * (M.1 280 75)) + x7)) (0 : Int64)))) (b := (ib 671 (((61 : Int32) * (M.1 280 75)) + x7) && true)) rfl (and_i hb22_0 rfl) ?_
        refine Rc.goL mt_1267 1 (f2 := (126, [.ref 280, UU, UU, .int x3, UU, UU, UU, .int (x7 + (1 : Int32)), UU, UU], [], gm (wL M 329 (Int32.toNatClampNeg (((61 : Int32) * (M.1 280 75)) + x7)) (0 : Int64)))) (b := true) rfl rfl ?_
        refine Rc.less (ls2 := [.ref 280, UU, UU, .int x3, UU, UU, UU, .int (x7 + (1 : Int32)), UU, UU]) (by refine ⟨Or.inr rfl, Or.inl rfl, Or.inl rfl, Or.inr rfl, Or.inl rfl, Or.inl rfl, Or.inl rfl, Or.inr rfl, Or.inl rfl, Or.inl rfl, trivial⟩) ?_
        exact ih x3 (x7 + (1 : Int32)) _ _ _ hs
      · rw [if_neg h24] at hs
        refine Rc.goL mt_1267 2 (f2 := (if x7 = 0 then 152 else 156, [.ref 280, UU, UU, .int x3, UU, UU, UU, .int x7, UU, UU], [.int (((61 : Int32) * (M.1 280 75)) + x7), .ref 329], gm M)) (b := true) rfl rfl ?_
        rw [if_neg h24]
        refine Rc.goL mt_1267 0 (f2 := (159, [.ref 280, UU, UU, .int x3, UU, UU, UU, .int x7, UU, UU], [.long (-1000000000000000 : Int64), .int (((61 : Int32) * (M.1 280 75)) + x7), .ref 329], gm M)) (b := true) rfl rfl ?_
        obtain ⟨hb23, hs⟩ := ck_some hs
        obtain ⟨hb23_0, hb23⟩ := and_t hb23
        refine Rc.goL mt_1267 0 (f2 := (160, [.ref 280, UU, UU, .int x3, UU, UU, UU, .int x7, UU, UU], [], gm (wL M 329 (Int32.toNatClampNeg (((61 : Int32) * (M.1 280 75)) + x7)) (-1000000000000000 : Int64)))) (b := (ib 671 (((61 : Int32) * (M.1 280 75)) + x7) && true)) rfl (and_i hb23_0 rfl) ?_
        refine Rc.goL mt_1267 1 (f2 := (126, [.ref 280, UU, UU, .int x3, UU, UU, UU, .int (x7 + (1 : Int32)), UU, UU], [], gm (wL M 329 (Int32.toNatClampNeg (((61 : Int32) * (M.1 280 75)) + x7)) (-1000000000000000 : Int64)))) (b := true) rfl rfl ?_
        refine Rc.less (ls2 := [.ref 280, UU, UU, .int x3, UU, UU, UU, .int (x7 + (1 : Int32)), UU, UU]) (by refine ⟨Or.inr rfl, Or.inl rfl, Or.inl rfl, Or.inr rfl, Or.inl rfl, Or.inl rfl, Or.inl rfl, Or.inr rfl, Or.inl rfl, Or.inl rfl, trivial⟩) ?_
        exact ih x3 (x7 + (1 : Int32)) _ _ _ hs
set_option maxRecDepth 20000 in
theorem qmd_spread_L182_ok (d : Nat) (hd : 6 ≤ d + 1) (k215 : Int32 → Int32 → SM → Option (Int64 × SM)) (hk215 : ∀ (y3 : Int32) (y7 : Int32) (M : SM) (r : Int64) (Mz : SM), k215 y3 y7 M = some (r, Mz) → Rc (d + 1) 1267 (215, [.ref 280, UU, UU, .int y3, UU, UU, UU, .int y7, UU, UU], [], gm M) (some (.long r), gm Mz)) : ∀ (n : Nat) (x3 : Int32) (x7 : Int32) (x8 : Int32) (M : SM) (r : Int64) (Mz : SM), qmd_spread_L182 k215 n x3 x7 x8 M = some (r, Mz) → Rc (d + 1) 1267 (182, [.ref 280, UU, UU, .int x3, UU, UU, UU, .int x7, .int x8, UU], [], gm M) (some (.long r), gm Mz) := by
  intro n
  induction n with
  | zero => intro x3 x7 x8 M r Mz hs; cases hs
  | succ n ih =>
    intro x3 x7 x8 M r Mz hs
    rw [qmd_spread_L182] at hs
    by_cases h32 : x3 < x8
    · rw [if_pos h32] at hs
      refine Rc.goL mt_1267 2 (f2 := (if x3 < x8 then 215 else 188, [.ref 280, UU, UU, .int x3, UU, UU, UU, .int x7, .int x8, UU], [], gm M)) (b := true) rfl rfl ?_
      rw [if_pos h32]
      refine Rc.less (ls2 := [.ref 280, UU, UU, .int x3, UU, UU, UU, .int x7, UU, UU]) (by refine ⟨Or.inr rfl, Or.inl rfl, Or.inl rfl, Or.inr rfl, Or.inl rfl, Or.inl rfl, Or.inl rfl, Or.inr rfl, Or.inl rfl, Or.inl rfl, trivial⟩) ?_
      exact hk215 x3 x7 _ _ _ hs
    · rw [if_neg h32] at hs
      refine Rc.goL mt_1267 2 (f2 := (if x3 < x8 then 215 else 188, [.ref 280, UU, UU, .int x3, UU, UU, UU, .int x7, .int x8, UU], [], gm M)) (b := true) rfl rfl ?_
      rw [if_neg h32]
      refine Rc.goL mt_1267 6 (f2 := (200, [.ref 280, UU, UU, .int x3, UU, UU, UU, .int x7, .int x8, UU], [.int (((61 : Int32) * x7) + x8), .ref 329], gm M)) (b := true) rfl rfl ?_
      refine Rc.goL mt_1267 2 (f2 := (205, [.ref 280, UU, UU, .int x3, UU, UU, UU, .int x7, .int x8, UU], [.int x8, .int x7, .ref 280, .int (((61 : Int32) * x7) + x8), .ref 329], gm M)) (b := true) rfl rfl ?_
      obtain ⟨r28, M29, he30, hs⟩ := ob_some hs
      refine Rc.callV (i := 449) (mid' := 1268) (av := [.int x7, .int x8]) (rest := [.int (((61 : Int32) * x7) + x8), .ref 329]) (v := some (.long r28)) (M1 := gm M29) (a := 280) rfl rfl rfl cw_1268 rfl (Nat.le_of_ble_eq_true rfl) rfl (Nat.le_of_ble_eq_true rfl) (qmd_bestOf_ok _ (by omega) he30) ?_
      obtain ⟨hb31, hs⟩ := ck_some hs
      obtain ⟨hb31_0, hb31⟩ := and_t hb31
      refine Rc.goL mt_1267 0 (f2 := (209, [.ref 280, UU, UU, .int x3, UU, UU, UU, .int x7, .int x8, UU], [], gm (wL M29 329 (Int32.toNatClampNeg (((61 : Int32) * x7) + x8)) r28))) (b := (ib 671 (((61 : Int32) * x7) + x8) && true)) rfl (and_i hb31_0 rfl) ?_
      refine Rc.goL mt_1267 1 (f2 := (182, [.ref 280, UU, UU, .int x3, UU, UU, UU, .int x7, .int (x8 + (1 : Int32)), UU], [], gm (wL M29 329 (Int32.toNatClampNeg (((61 : Int32) * x7) + x8)) r28))) (b := true) rfl rfl ?_
      refine Rc.less (ls2 := [.ref 280, UU, UU, .int x3, UU, UU, UU, .int x7, .int (x8 + (1 : Int32)), UU]) (by refine ⟨Or.inr rfl, Or.inl rfl, Or.inl rfl, Or.inr rfl, Or.inl rfl, Or.inl rfl, Or.inl rfl, Or.inr rfl, Or.inr rfl, Or.inl rfl, trivial⟩) ?_
      exact ih x3 x7 (x8 + (1 : Int32)) _ _ _ hs
set_option maxRecDepth 20000 in
theorem qmd_spread_L174_ok (d : Nat) (hd : 6 ≤ d + 1) (k221 : Int32 → SM → Option (Int64 × SM)) (hk221 : ∀ (y3 : Int32) (M : SM) (r : Int64) (Mz : SM), k221 y3 M = some (r, Mz) → Rc (d + 1) 1267 (221, [.ref 280, UU, UU, .int y3, UU, UU, UU, UU, UU, UU], [], gm M) (some (.long r), gm Mz)) : ∀ (n : Nat) (x3 : Int32) (x7 : Int32) (M : SM) (r : Int64) (Mz : SM), qmd_spread_L174 k221 n x3 x7 M = some (r, Mz) → Rc (d + 1) 1267 (174, [.ref 280, UU, UU, .int x3, UU, UU, UU, .int x7, UU, UU], [], gm M) (some (.long r), gm Mz) := by
  intro n
  induction n with
  | zero => intro x3 x7 M r Mz hs; cases hs
  | succ n ih =>
    intro x3 x7 M r Mz hs
    rw [qmd_spread_L174] at hs
    by_cases h36 : x7 < 0
    · rw [if_pos h36] at hs
      refine Rc.goL mt_1267 1 (f2 := (if x7 < 0 then 221 else 179, [.ref 280, UU, UU, .int x3, UU, UU, UU, .int x7, UU, UU], [], gm M)) (b := true) rfl rfl ?_
      rw [if_pos h36]
      refine Rc.less (ls2 := [.ref 280, UU, UU, .int x3, UU, UU, UU, UU, UU, UU]) (by refine ⟨Or.inr rfl, Or.inl rfl, Or.inl rfl, Or.inr rfl, Or.inl rfl, Or.inl rfl, Or.inl rfl, Or.inl rfl, Or.inl rfl, Or.inl rfl, trivial⟩) ?_
      exact hk221 x3 _ _ _ hs
    · rw [if_neg h36] at hs
      refine Rc.goL mt_1267 1 (f2 := (if x7 < 0 then 221 else 179, [.ref 280, UU, UU, .int x3, UU, UU, UU, .int x7, UU, UU], [], gm M)) (b := true) rfl rfl ?_
      rw [if_neg h36]
      refine Rc.goL mt_1267 1 (f2 := (182, [.ref 280, UU, UU, .int x3, UU, UU, UU, .int x7, .int (0 : Int32), UU], [], gm M)) (b := true) rfl rfl ?_
      refine Rc.less (ls2 := [.ref 280, UU, UU, .int x3, UU, UU, UU, .int x7, .int (0 : Int32), UU]) (by refine ⟨Or.inr rfl, Or.inl rfl, Or.inl rfl, Or.inr rfl, Or.inl rfl, Or.inl rfl, Or.inl rfl, Or.inr rfl, Or.inr rfl, Or.inl rfl, trivial⟩) ?_
      refine qmd_spread_L182_ok d hd _ (fun y3_33 y7_34 M35 r Mz hs => ?_) _ x3 x7 (0 : Int32) _ _ _ hs
      · refine Rc.goL mt_1267 1 (f2 := (174, [.ref 280, UU, UU, .int y3_33, UU, UU, UU, .int (y7_34 + (-1 : Int32)), UU, UU], [], gm M35)) (b := true) rfl rfl ?_
        refine Rc.less (ls2 := [.ref 280, UU, UU, .int y3_33, UU, UU, UU, .int (y7_34 + (-1 : Int32)), UU, UU]) (by refine ⟨Or.inr rfl, Or.inl rfl, Or.inl rfl, Or.inr rfl, Or.inl rfl, Or.inl rfl, Or.inl rfl, Or.inr rfl, Or.inl rfl, Or.inl rfl, trivial⟩) ?_
        exact ih y3_33 (y7_34 + (-1 : Int32)) _ _ _ hs
set_option maxRecDepth 20000 in
theorem qmd_spread_L224_ok (d : Nat) (hd : 6 ≤ d + 1) (k245 : Int32 → SM → Option (Int64 × SM)) (hk245 : ∀ (y3 : Int32) (M : SM) (r : Int64) (Mz : SM), k245 y3 M = some (r, Mz) → Rc (d + 1) 1267 (245, [.ref 280, UU, UU, .int y3, UU, UU, UU, UU, UU, UU], [], gm M) (some (.long r), gm Mz)) : ∀ (n : Nat) (x3 : Int32) (x7 : Int32) (M : SM) (r : Int64) (Mz : SM), qmd_spread_L224 k245 n x3 x7 M = some (r, Mz) → Rc (d + 1) 1267 (224, [.ref 280, UU, UU, .int x3, UU, UU, UU, .int x7, UU, UU], [], gm M) (some (.long r), gm Mz) := by
  intro n
  induction n with
  | zero => intro x3 x7 M r Mz hs; cases hs
  | succ n ih =>
    intro x3 x7 M r Mz hs
    rw [qmd_spread_L224] at hs
    by_cases h40 : x7 < (16 : Int32)
    · rw [if_pos h40] at hs
      refine Rc.goL mt_1267 2 (f2 := (if x7 < (16 : Int32) then 231 else 245, [.ref 280, UU, UU, .int x3, UU, UU, UU, .int x7, UU, UU], [], gm M)) (b := true) rfl rfl ?_
      rw [if_pos h40]
      obtain ⟨hb39, hs⟩ := ck_some hs
      obtain ⟨hb39_0, hb39⟩ := and_t hb39
      refine Rc.goL mt_1267 4 (f2 := (239, [.ref 280, UU, UU, .int x3, UU, UU, UU, .int x7, UU, UU], [], gm (wI M 327 (Int32.toNatClampNeg x7) (0 : Int32)))) (b := (ib 16 x7 && true)) rfl (and_i hb39_0 rfl) ?_
      refine Rc.goL mt_1267 1 (f2 := (224, [.ref 280, UU, UU, .int x3, UU, UU, UU, .int (x7 + (1 : Int32)), UU, UU], [], gm (wI M 327 (Int32.toNatClampNeg x7) (0 : Int32)))) (b := true) rfl rfl ?_
      refine Rc.less (ls2 := [.ref 280, UU, UU, .int x3, UU, UU, UU, .int (x7 + (1 : Int32)), UU, UU]) (by refine ⟨Or.inr rfl, Or.inl rfl, Or.inl rfl, Or.inr rfl, Or.inl rfl, Or.inl rfl, Or.inl rfl, Or.inr rfl, Or.inl rfl, Or.inl rfl, trivial⟩) ?_
      exact ih x3 (x7 + (1 : Int32)) _ _ _ hs
    · rw [if_neg h40] at hs
      refine Rc.goL mt_1267 2 (f2 := (if x7 < (16 : Int32) then 231 else 245, [.ref 280, UU, UU, .int x3, UU, UU, UU, .int x7, UU, UU], [], gm M)) (b := true) rfl rfl ?_
      rw [if_neg h40]
      refine Rc.less (ls2 := [.ref 280, UU, UU, .int x3, UU, UU, UU, UU, UU, UU]) (by refine ⟨Or.inr rfl, Or.inl rfl, Or.inl rfl, Or.inr rfl, Or.inl rfl, Or.inl rfl, Or.inl rfl, Or.inl rfl, Or.inl rfl, Or.inl rfl, trivial⟩) ?_
      exact hk245 x3 _ _ _ hs
set_option maxRecDepth 20000 in
theorem qmd_spread_L263_ok (d : Nat) (hd : 6 ≤ d + 1) (k321 : Int32 → Int32 → Int32 → Int32 → SM → Option (Int64 × SM)) (hk321 : ∀ (y3 : Int32) (y7 : Int32) (y8 : Int32) (y9 : Int32) (M : SM) (r : Int64) (Mz : SM), k321 y3 y7 y8 y9 M = some (r, Mz) → Rc (d + 1) 1267 (321, [.ref 280, UU, UU, .int y3, UU, UU, UU, .int y7, .int y8, .int y9], [], gm M) (some (.long r), gm Mz)) : ∀ (n : Nat) (x3 : Int32) (x7 : Int32) (x8 : Int32) (x9 : Int32) (M : SM) (r : Int64) (Mz : SM), qmd_spread_L263 k321 n x3 x7 x8 x9 M = some (r, Mz) → Rc (d + 1) 1267 (263, [.ref 280, UU, UU, .int x3, UU, UU, UU, .int x7, .int x8, .int x9], [], gm M) (some (.long r), gm Mz) := by
  intro n
  induction n with
  | zero => intro x3 x7 x8 x9 M r Mz hs; cases hs
  | succ n ih =>
    intro x3 x7 x8 x9 M r Mz hs
    rw [qmd_spread_L263] at hs
    obtain ⟨hb43, hs⟩ := ck_some hs
    obtain ⟨hb43_0, hb43⟩ := and_t hb43
    obtain ⟨hb43_1, hb43⟩ := and_t hb43
    obtain ⟨hb43_2, hb43⟩ := and_t hb43
    refine Rc.goL mt_1267 6 (f2 := (275, [.ref 280, UU, UU, .int x3, UU, UU, UU, .int x7, .int x8, .int x9], [.int (((25 : Int32) * x8) + x9), .ref 328], gm M)) (b := true) rfl rfl ?_
    refine Rc.goL mt_1267 6 (f2 := (286, [.ref 280, UU, UU, .int x3, UU, UU, UU, .int x7, .int x8, .int x9], [.int (x8 + (1 : Int32)), .int (61 : Int32), .ref 329, .long (M.2 328 (Int32.toNatClampNeg (((25 : Int32) * x8) + x9)))], gm M)) (b := (ib 250 (((25 : Int32) * x8) + x9) && true)) rfl (and_i hb43_0 rfl) ?_
    refine Rc.goL mt_1267 6 (f2 := (295, [.ref 280, UU, UU, .int x3, UU, UU, UU, .int x7, .int x8, .int x9], [.long ((M.2 328 (Int32.toNatClampNeg (((25 : Int32) * x8) + x9))) + (M.2 329 (Int32.toNatClampNeg ((((61 : Int32) * (x8 + (1 : Int32))) + x7) - x9))))], gm M)) (b := (ib 671 ((((61 : Int32) * (x8 + (1 : Int32))) + x7) - x9) && true)) rfl (and_i hb43_1 rfl) ?_
    refine Rc.goL mt_1267 6 (f2 := (307, [.ref 280, UU, UU, .int x3, UU, UU, UU, .int x7, .int x8, .int x9], [.int (((61 : Int32) * x8) + x7), .ref 329, .long ((M.2 328 (Int32.toNatClampNeg (((25 : Int32) * x8) + x9))) + (M.2 329 (Int32.toNatClampNeg ((((61 : Int32) * (x8 + (1 : Int32))) + x7) - x9))))], gm M)) (b := true) rfl rfl ?_
    by_cases h44 : (lg_cmp ((M.2 328 (Int32.toNatClampNeg (((25 : Int32) * x8) + x9))) + (M.2 329 (Int32.toNatClampNeg ((((61 : Int32) * (x8 + (1 : Int32))) + x7) - x9)))) (M.2 329 (Int32.toNatClampNeg (((61 : Int32) * x8) + x7)))) = 0
    · rw [if_pos h44] at hs
      refine Rc.goL mt_1267 2 (f2 := (if (lg_cmp ((M.2 328 (Int32.toNatClampNeg (((25 : Int32) * x8) + x9))) + (M.2 329 (Int32.toNatClampNeg ((((61 : Int32) * (x8 + (1 : Int32))) + x7) - x9)))) (M.2 329 (Int32.toNatClampNeg (((61 : Int32) * x8) + x7)))) = 0 then 321 else 312, [.ref 280, UU, UU, .int x3, UU, UU, UU, .int x7, .int x8, .int x9], [], gm M)) (b := (ib 671 (((61 : Int32) * x8) + x7) && true)) rfl (and_i hb43_2 rfl) ?_
      rw [if_pos h44]
      refine Rc.less (ls2 := [.ref 280, UU, UU, .int x3, UU, UU, UU, .int x7, .int x8, .int x9]) (by refine ⟨Or.inr rfl, Or.inl rfl, Or.inl rfl, Or.inr rfl, Or.inl rfl, Or.inl rfl, Or.inl rfl, Or.inr rfl, Or.inr rfl, Or.inr rfl, trivial⟩) ?_
      exact hk321 x3 x7 x8 x9 _ _ _ hs
    · rw [if_neg h44] at hs
      refine Rc.goL mt_1267 2 (f2 := (if (lg_cmp ((M.2 328 (Int32.toNatClampNeg (((25 : Int32) * x8) + x9))) + (M.2 329 (Int32.toNatClampNeg ((((61 : Int32) * (x8 + (1 : Int32))) + x7) - x9)))) (M.2 329 (Int32.toNatClampNeg (((61 : Int32) * x8) + x7)))) = 0 then 321 else 312, [.ref 280, UU, UU, .int x3, UU, UU, UU, .int x7, .int x8, .int x9], [], gm M)) (b := (ib 671 (((61 : Int32) * x8) + x7) && true)) rfl (and_i hb43_2 rfl) ?_
      rw [if_neg h44]
      refine Rc.goL mt_1267 4 (f2 := (263, [.ref 280, UU, UU, .int x3, UU, UU, UU, .int x7, .int x8, .int (x9 + (1 : Int32))], [], gm M)) (b := true) rfl rfl ?_
      refine Rc.less (ls2 := [.ref 280, UU, UU, .int x3, UU, UU, UU, .int x7, .int x8, .int (x9 + (1 : Int32))]) (by refine ⟨Or.inr rfl, Or.inl rfl, Or.inl rfl, Or.inr rfl, Or.inl rfl, Or.inl rfl, Or.inl rfl, Or.inr rfl, Or.inr rfl, Or.inr rfl, trivial⟩) ?_
      exact ih x3 x7 x8 (x9 + (1 : Int32)) _ _ _ hs
set_option maxRecDepth 20000 in
theorem qmd_spread_L251_ok (d : Nat) (hd : 6 ≤ d + 1) : ∀ (n : Nat) (x3 : Int32) (x7 : Int32) (x8 : Int32) (M : SM) (r : Int64) (Mz : SM), qmd_spread_L251 n x3 x7 x8 M = some (r, Mz) → Rc (d + 1) 1267 (251, [.ref 280, UU, UU, .int x3, UU, UU, UU, .int x7, .int x8, UU], [], gm M) (some (.long r), gm Mz) := by
  intro n
  induction n with
  | zero => intro x3 x7 x8 M r Mz hs; cases hs
  | succ n ih =>
    intro x3 x7 x8 M r Mz hs
    rw [qmd_spread_L251] at hs
    by_cases h52 : x8 < (M.1 280 75)
    · rw [if_pos h52] at hs
      refine Rc.goL mt_1267 3 (f2 := (if x8 < (M.1 280 75) then 260 else 348, [.ref 280, UU, UU, .int x3, UU, UU, UU, .int x7, .int x8, UU], [], gm M)) (b := true) rfl rfl ?_
      rw [if_pos h52]
      refine Rc.goL mt_1267 1 (f2 := (263, [.ref 280, UU, UU, .int x3, UU, UU, UU, .int x7, .int x8, .int (0 : Int32)], [], gm M)) (b := true) rfl rfl ?_
      refine Rc.less (ls2 := [.ref 280, UU, UU, .int x3, UU, UU, UU, .int x7, .int x8, .int (0 : Int32)]) (by refine ⟨Or.inr rfl, Or.inl rfl, Or.inl rfl, Or.inr rfl, Or.inl rfl, Or.inl rfl, Or.inl rfl, Or.inr rfl, Or.inr rfl, Or.inr rfl, trivial⟩) ?_
      refine qmd_spread_L263_ok d hd _ (fun y3_45 y7_46 y8_47 y9_48 M49 r Mz hs => ?_) _ x3 x7 x8 (0 : Int32) _ _ _ hs
      · obtain ⟨hb50, hs⟩ := ck_some hs
        obtain ⟨hb50_0, hb50⟩ := and_t hb50
        obtain ⟨hb50_1, hb50⟩ := and_t hb50
        refine Rc.goL mt_1267 6 (f2 := (334, [.ref 280, UU, UU, .int y3_45, UU, UU, UU, .int y7_46, .int y8_47, .int y9_48], [.int y9_48, .int (M49.1 326 (Int32.toNatClampNeg y8_47)), .ref 327], gm M49)) (b := (ib 10 y8_47 && true)) rfl (and_i hb50_0 rfl) ?_
        refine Rc.goL mt_1267 0 (f2 := (335, [.ref 280, UU, UU, .int y3_45, UU, UU, UU, .int y7_46, .int y8_47, .int y9_48], [], gm (wI M49 327 (Int32.toNatClampNeg (M49.1 326 (Int32.toNatClampNeg y8_47))) y9_48))) (b := (ib 16 (M49.1 326 (Int32.toNatClampNeg y8_47)) && true)) rfl (and_i hb50_1 rfl) ?_
        refine Rc.goL mt_1267 5 (f2 := (251, [.ref 280, UU, UU, .int y3_45, UU, UU, UU, .int (y7_46 - y9_48), .int (y8_47 + (1 : Int32)), .int y9_48], [], gm (wI M49 327 (Int32.toNatClampNeg (M49.1 326 (Int32.toNatClampNeg y8_47))) y9_48))) (b := true) rfl rfl ?_
        refine Rc.less (ls2 := [.ref 280, UU, UU, .int y3_45, UU, UU, UU, .int (y7_46 - y9_48), .int (y8_47 + (1 : Int32)), UU]) (by refine ⟨Or.inr rfl, Or.inl rfl, Or.inl rfl, Or.inr rfl, Or.inl rfl, Or.inl rfl, Or.inl rfl, Or.inr rfl, Or.inr rfl, Or.inl rfl, trivial⟩) ?_
        exact ih y3_45 (y7_46 - y9_48) (y8_47 + (1 : Int32)) _ _ _ hs
    · rw [if_neg h52] at hs
      refine Rc.goL mt_1267 3 (f2 := (if x8 < (M.1 280 75) then 260 else 348, [.ref 280, UU, UU, .int x3, UU, UU, UU, .int x7, .int x8, UU], [], gm M)) (b := true) rfl rfl ?_
      rw [if_neg h52]
      obtain ⟨hb51, hs⟩ := ck_some hs
      refine Rc.goL mt_1267 3 (f2 := (354, [.ref 280, UU, UU, .int x3, UU, UU, UU, .int x7, .int x8, UU], [.long (M.2 329 (Int32.toNatClampNeg x3))], gm M)) (b := (ib 671 x3 && true)) rfl hb51 ?_
      obtain ⟨e1, e2⟩ := some_p hs; subst e1; subst e2
      exact Rc.ret (v := some (.long (M.2 329 (Int32.toNatClampNeg x3)))) rfl rfl
set_option maxRecDepth 20000 in
theorem qmd_spread_ok (d : Nat) (hd : 6 ≤ d) {x1 : Int32} {x2 : Int32} {x3 : Int32} {x4 : Int32} {x5 : Int32} {x6 : Int32} {M : SM} {r : Int64} {Mz : SM} (hs : qmd_spread x1 x2 x3 x4 x5 x6 M = some (r, Mz)) : Ex d 1267 [.ref 280, .int x1, .int x2, .int x3, .int x4, .int x5, .int x6] (gm M) (some (.long r), gm Mz) := by
  obtain ⟨d, rfl⟩ : ∃ d0, d = d0 + 1 := ⟨d - 1, by omega⟩
  refine Ex.of okm_1267 (by omega) (Nat.le_of_ble_eq_true rfl) ?_
  show Rc (d + 1) 1267 (0, [.ref 280, .int x1, .int x2, .int x3, .int x4, .int x5, .int x6, UU, UU, UU], [], gm M) _
  unfold qmd_spread at hs
  refine Rc.goL mt_1267 1 (f2 := (2, [.ref 280, .int x1, .int x2, .int x3, .int x4, .int x5, .int x6, UU, UU, UU], [.int x1, .ref 280], gm M)) (b := true) rfl rfl ?_
  obtain ⟨r1, M2, he3, hs⟩ := ob_some hs
  refine Rc.callV (i := 191) (mid' := 1202) (av := [.int x1]) (rest := []) (v := some (.int r1)) (M1 := gm M2) (a := 280) rfl rfl rfl cw_1202 rfl (Nat.le_of_ble_eq_true rfl) rfl (Nat.le_of_ble_eq_true rfl) (qmd_isMaster_ok _ (by omega) he3) ?_
  by_cases h59 : r1 = 0
  · rw [if_pos h59] at hs
    refine Rc.goL mt_1267 0 (f2 := (if r1 = 0 then 62 else 8, [.ref 280, .int x1, .int x2, .int x3, .int x4, .int x5, .int x6, UU, UU, UU], [], gm M2)) (b := true) rfl rfl ?_
    rw [if_pos h59]
    refine Rc.goL mt_1267 0 (f2 := (65, [.ref 280, .int x1, .int x2, .int x3, .int x4, .int x5, .int x6, UU, UU, UU], [.long (-1000000000000 : Int64)], gm M2)) (b := true) rfl rfl ?_
    obtain ⟨e1, e2⟩ := some_p hs; subst e1; subst e2
    exact Rc.ret (v := some (.long (-1000000000000 : Int64))) rfl rfl
  · rw [if_neg h59] at hs
    refine Rc.goL mt_1267 0 (f2 := (if r1 = 0 then 62 else 8, [.ref 280, .int x1, .int x2, .int x3, .int x4, .int x5, .int x6, UU, UU, UU], [], gm M2)) (b := true) rfl rfl ?_
    rw [if_neg h59]
    refine Rc.goL mt_1267 2 (f2 := (12, [.ref 280, .int x1, .int x2, .int x3, .int x4, .int x5, .int x6, UU, UU, UU], [.int (9 : Int32), .int (0 : Int32), .int x2], gm M2)) (b := true) rfl rfl ?_
    obtain ⟨r4, M5, he6, hs⟩ := ob_some hs
    refine Rc.callS (i := 195) (mid' := 1201) (av := [.int x2, .int (0 : Int32), .int (9 : Int32)]) (rest := []) (v := some (.int r4)) (M1 := gm M5) rfl (Or.inl rfl) rfl cw_1201 rfl (Nat.le_of_ble_eq_true rfl) (qmd_in_ok _ (by omega) he6) ?_
    by_cases h58 : r4 = 0
    · rw [if_pos h58] at hs
      refine Rc.goL mt_1267 0 (f2 := (if r4 = 0 then 62 else 18, [.ref 280, .int x1, .int x2, .int x3, .int x4, .int x5, .int x6, UU, UU, UU], [], gm M5)) (b := true) rfl rfl ?_
      rw [if_pos h58]
      refine Rc.goL mt_1267 0 (f2 := (65, [.ref 280, .int x1, .int x2, .int x3, .int x4, .int x5, .int x6, UU, UU, UU], [.long (-1000000000000 : Int64)], gm M5)) (b := true) rfl rfl ?_
      obtain ⟨e1, e2⟩ := some_p hs; subst e1; subst e2
      exact Rc.ret (v := some (.long (-1000000000000 : Int64))) rfl rfl
    · rw [if_neg h58] at hs
      refine Rc.goL mt_1267 0 (f2 := (if r4 = 0 then 62 else 18, [.ref 280, .int x1, .int x2, .int x3, .int x4, .int x5, .int x6, UU, UU, UU], [], gm M5)) (b := true) rfl rfl ?_
      rw [if_neg h58]
      refine Rc.goL mt_1267 2 (f2 := (22, [.ref 280, .int x1, .int x2, .int x3, .int x4, .int x5, .int x6, UU, UU, UU], [.int (60 : Int32), .int (0 : Int32), .int x3], gm M5)) (b := true) rfl rfl ?_
      obtain ⟨r7, M8, he9, hs⟩ := ob_some hs
      refine Rc.callS (i := 195) (mid' := 1201) (av := [.int x3, .int (0 : Int32), .int (60 : Int32)]) (rest := []) (v := some (.int r7)) (M1 := gm M8) rfl (Or.inl rfl) rfl cw_1201 rfl (Nat.le_of_ble_eq_true rfl) (qmd_in_ok _ (by omega) he9) ?_
      by_cases h57 : r7 = 0
      · rw [if_pos h57] at hs
        refine Rc.goL mt_1267 0 (f2 := (if r7 = 0 then 62 else 28, [.ref 280, .int x1, .int x2, .int x3, .int x4, .int x5, .int x6, UU, UU, UU], [], gm M8)) (b := true) rfl rfl ?_
        rw [if_pos h57]
        refine Rc.goL mt_1267 0 (f2 := (65, [.ref 280, .int x1, .int x2, .int x3, .int x4, .int x5, .int x6, UU, UU, UU], [.long (-1000000000000 : Int64)], gm M8)) (b := true) rfl rfl ?_
        obtain ⟨e1, e2⟩ := some_p hs; subst e1; subst e2
        exact Rc.ret (v := some (.long (-1000000000000 : Int64))) rfl rfl
      · rw [if_neg h57] at hs
        refine Rc.goL mt_1267 0 (f2 := (if r7 = 0 then 62 else 28, [.ref 280, .int x1, .int x2, .int x3, .int x4, .int x5, .int x6, UU, UU, UU], [], gm M8)) (b := true) rfl rfl ?_
        rw [if_neg h57]
        refine Rc.goL mt_1267 2 (f2 := (33, [.ref 280, .int x1, .int x2, .int x3, .int x4, .int x5, .int x6, UU, UU, UU], [.int (40 : Int32), .int (0 : Int32), .int x4], gm M8)) (b := true) rfl rfl ?_
        obtain ⟨r10, M11, he12, hs⟩ := ob_some hs
        refine Rc.callS (i := 195) (mid' := 1201) (av := [.int x4, .int (0 : Int32), .int (40 : Int32)]) (rest := []) (v := some (.int r10)) (M1 := gm M11) rfl (Or.inl rfl) rfl cw_1201 rfl (Nat.le_of_ble_eq_true rfl) (qmd_in_ok _ (by omega) he12) ?_
        by_cases h56 : r10 = 0
        · rw [if_pos h56] at hs
          refine Rc.goL mt_1267 0 (f2 := (if r10 = 0 then 62 else 39, [.ref 280, .int x1, .int x2, .int x3, .int x4, .int x5, .int x6, UU, UU, UU], [], gm M11)) (b := true) rfl rfl ?_
          rw [if_pos h56]
          refine Rc.goL mt_1267 0 (f2 := (65, [.ref 280, .int x1, .int x2, .int x3, .int x4, .int x5, .int x6, UU, UU, UU], [.long (-1000000000000 : Int64)], gm M11)) (b := true) rfl rfl ?_
          obtain ⟨e1, e2⟩ := some_p hs; subst e1; subst e2
          exact Rc.ret (v := some (.long (-1000000000000 : Int64))) rfl rfl
        · rw [if_neg h56] at hs
          refine Rc.goL mt_1267 0 (f2 := (if r10 = 0 then 62 else 39, [.ref 280, .int x1, .int x2, .int x3, .int x4, .int x5, .int x6, UU, UU, UU], [], gm M11)) (b := true) rfl rfl ?_
          rw [if_neg h56]
          refine Rc.goL mt_1267 2 (f2 := (44, [.ref 280, .int x1, .int x2, .int x3, .int x4, .int x5, .int x6, UU, UU, UU], [.int (99 : Int32), .int (0 : Int32), .int x5], gm M11)) (b := true) rfl rfl ?_
          obtain ⟨r13, M14, he15, hs⟩ := ob_some hs
          refine Rc.callS (i := 195) (mid' := 1201) (av := [.int x5, .int (0 : Int32), .int (99 : Int32)]) (rest := []) (v := some (.int r13)) (M1 := gm M14) rfl (Or.inl rfl) rfl cw_1201 rfl (Nat.le_of_ble_eq_true rfl) (qmd_in_ok _ (by omega) he15) ?_
          by_cases h55 : r13 = 0
          · rw [if_pos h55] at hs
            refine Rc.goL mt_1267 0 (f2 := (if r13 = 0 then 62 else 50, [.ref 280, .int x1, .int x2, .int x3, .int x4, .int x5, .int x6, UU, UU, UU], [], gm M14)) (b := true) rfl rfl ?_
            rw [if_pos h55]
            refine Rc.goL mt_1267 0 (f2 := (65, [.ref 280, .int x1, .int x2, .int x3, .int x4, .int x5, .int x6, UU, UU, UU], [.long (-1000000000000 : Int64)], gm M14)) (b := true) rfl rfl ?_
            obtain ⟨e1, e2⟩ := some_p hs; subst e1; subst e2
            exact Rc.ret (v := some (.long (-1000000000000 : Int64))) rfl rfl
          · rw [if_neg h55] at hs
            refine Rc.goL mt_1267 0 (f2 := (if r13 = 0 then 62 else 50, [.ref 280, .int x1, .int x2, .int x3, .int x4, .int x5, .int x6, UU, UU, UU], [], gm M14)) (b := true) rfl rfl ?_
            rw [if_neg h55]
            refine Rc.goL mt_1267 2 (f2 := (56, [.ref 280, .int x1, .int x2, .int x3, .int x4, .int x5, .int x6, UU, UU, UU], [.int (100000 : Int32), .int (0 : Int32), .int x6], gm M14)) (b := true) rfl rfl ?_
            obtain ⟨r16, M17, he18, hs⟩ := ob_some hs
            refine Rc.callS (i := 195) (mid' := 1201) (av := [.int x6, .int (0 : Int32), .int (100000 : Int32)]) (rest := []) (v := some (.int r16)) (M1 := gm M17) rfl (Or.inl rfl) rfl cw_1201 rfl (Nat.le_of_ble_eq_true rfl) (qmd_in_ok _ (by omega) he18) ?_
            by_cases h54 : r16 = 0
            · rw [if_pos h54] at hs
              refine Rc.goL mt_1267 0 (f2 := (if r16 = 0 then 62 else 66, [.ref 280, .int x1, .int x2, .int x3, .int x4, .int x5, .int x6, UU, UU, UU], [], gm M17)) (b := true) rfl rfl ?_
              rw [if_pos h54]
              refine Rc.goL mt_1267 0 (f2 := (65, [.ref 280, .int x1, .int x2, .int x3, .int x4, .int x5, .int x6, UU, UU, UU], [.long (-1000000000000 : Int64)], gm M17)) (b := true) rfl rfl ?_
              obtain ⟨e1, e2⟩ := some_p hs; subst e1; subst e2
              exact Rc.ret (v := some (.long (-1000000000000 : Int64))) rfl rfl
            · rw [if_neg h54] at hs
              refine Rc.goL mt_1267 0 (f2 := (if r16 = 0 then 62 else 66, [.ref 280, .int x1, .int x2, .int x3, .int x4, .int x5, .int x6, UU, UU, UU], [], gm M17)) (b := true) rfl rfl ?_
              rw [if_neg h54]
              refine Rc.goL mt_1267 2 (f2 := (71, [.ref 280, .int x1, .int x2, .int x3, .int x4, .int x5, .int x6, UU, UU, UU], [], gm (wI M17 280 68 (1 : Int32)))) (b := true) rfl rfl ?_
              refine Rc.goL mt_1267 2 (f2 := (76, [.ref 280, .int x1, .int x2, .int x3, .int x4, .int x5, .int x6, UU, UU, UU], [], gm (wI (wI M17 280 68 (1 : Int32)) 280 69 x1))) (b := true) rfl rfl ?_
              refine Rc.goL mt_1267 2 (f2 := (81, [.ref 280, .int x1, .int x2, .int x3, .int x4, .int x5, .int x6, UU, UU, UU], [], gm (wI (wI (wI M17 280 68 (1 : Int32)) 280 69 x1) 280 70 x2))) (b := true) rfl rfl ?_
              refine Rc.goL mt_1267 2 (f2 := (86, [.ref 280, .int x1, .int x2, .int x3, .int x4, .int x5, .int x6, UU, UU, UU], [], gm (wI (wI (wI (wI M17 280 68 (1 : Int32)) 280 69 x1) 280 70 x2) 280 71 x3))) (b := true) rfl rfl ?_
              refine Rc.goL mt_1267 2 (f2 := (92, [.ref 280, .int x1, .int x2, .int x3, .int x4, .int x5, .int x6, UU, UU, UU], [], gm (wI (wI (wI (wI (wI M17 280 68 (1 : Int32)) 280 69 x1) 280 70 x2) 280 71 x3) 280 72 x4))) (b := true) rfl rfl ?_
              refine Rc.goL mt_1267 2 (f2 := (98, [.ref 280, .int x1, .int x2, .int x3, .int x4, .int x5, .int x6, UU, UU, UU], [], gm (wI (wI (wI (wI (wI (wI M17 280 68 (1 : Int32)) 280 69 x1) 280 70 x2) 280 71 x3) 280 72 x4) 280 73 x5))) (b := true) rfl rfl ?_
              refine Rc.goL mt_1267 2 (f2 := (104, [.ref 280, .int x1, .int x2, .int x3, .int x4, .int x5, .int x6, UU, UU, UU], [], gm (wI (wI (wI (wI (wI (wI (wI M17 280 68 (1 : Int32)) 280 69 x1) 280 70 x2) 280 71 x3) 280 72 x4) 280 73 x5) 280 74 x6))) (b := true) rfl rfl ?_
              refine Rc.goL mt_1267 0 (f2 := (105, [.ref 280, .int x1, .int x2, .int x3, .int x4, .int x5, .int x6, UU, UU, UU], [.ref 280], gm (wI (wI (wI (wI (wI (wI (wI M17 280 68 (1 : Int32)) 280 69 x1) 280 70 x2) 280 71 x3) 280 72 x4) 280 73 x5) 280 74 x6))) (b := true) rfl rfl ?_
              obtain ⟨u21, M19, he20, hs⟩ := ob_some hs
              refine Rc.callV (i := 444) (mid' := 1266) (av := []) (rest := []) (v := none) (M1 := gm M19) (a := 280) rfl rfl rfl cw_1266 rfl (Nat.le_of_ble_eq_true rfl) rfl (Nat.le_of_ble_eq_true rfl) (qmd_weighs_ok _ (by omega) he20) ?_
              by_cases h53 : ((24 : Int32) * (M19.1 280 75)) < x3
              · rw [if_pos h53] at hs
                refine Rc.goL mt_1267 5 (f2 := (if ((24 : Int32) * (M19.1 280 75)) < x3 then 119 else 123, [.ref 280, .int x1, .int x2, .int x3, .int x4, .int x5, .int x6, UU, UU, UU], [], gm M19)) (b := true) rfl rfl ?_
                rw [if_pos h53]
                refine Rc.goL mt_1267 0 (f2 := (122, [.ref 280, .int x1, .int x2, .int x3, .int x4, .int x5, .int x6, UU, UU, UU], [.long (-1000000000000 : Int64)], gm M19)) (b := true) rfl rfl ?_
                obtain ⟨e1, e2⟩ := some_p hs; subst e1; subst e2
                exact Rc.ret (v := some (.long (-1000000000000 : Int64))) rfl rfl
              · rw [if_neg h53] at hs
                refine Rc.goL mt_1267 5 (f2 := (if ((24 : Int32) * (M19.1 280 75)) < x3 then 119 else 123, [.ref 280, .int x1, .int x2, .int x3, .int x4, .int x5, .int x6, UU, UU, UU], [], gm M19)) (b := true) rfl rfl ?_
                rw [if_neg h53]
                refine Rc.goL mt_1267 1 (f2 := (126, [.ref 280, .int x1, .int x2, .int x3, .int x4, .int x5, .int x6, .int (0 : Int32), UU, UU], [], gm M19)) (b := true) rfl rfl ?_
                refine Rc.less (ls2 := [.ref 280, UU, UU, .int x3, UU, UU, UU, .int (0 : Int32), UU, UU]) (by refine ⟨Or.inr rfl, Or.inl rfl, Or.inl rfl, Or.inr rfl, Or.inl rfl, Or.inl rfl, Or.inl rfl, Or.inr rfl, Or.inl rfl, Or.inl rfl, trivial⟩) ?_
                refine qmd_spread_L126_ok d hd _ (fun y3_26 M27 r Mz hs => ?_) _ x3 (0 : Int32) _ _ _ hs
                · refine Rc.goL mt_1267 4 (f2 := (174, [.ref 280, UU, UU, .int y3_26, UU, UU, UU, .int ((M27.1 280 75) - (1 : Int32)), UU, UU], [], gm M27)) (b := true) rfl rfl ?_
                  refine Rc.less (ls2 := [.ref 280, UU, UU, .int y3_26, UU, UU, UU, .int ((M27.1 280 75) - (1 : Int32)), UU, UU]) (by refine ⟨Or.inr rfl, Or.inl rfl, Or.inl rfl, Or.inr rfl, Or.inl rfl, Or.inl rfl, Or.inl rfl, Or.inr rfl, Or.inl rfl, Or.inl rfl, trivial⟩) ?_
                  refine qmd_spread_L174_ok d hd _ (fun y3_37 M38 r Mz hs => ?_) _ y3_26 ((M27.1 280 75) - (1 : Int32)) _ _ _ hs
                  · refine Rc.goL mt_1267 1 (f2 := (224, [.ref 280, UU, UU, .int y3_37, UU, UU, UU, .int (0 : Int32), UU, UU], [], gm M38)) (b := true) rfl rfl ?_
                    refine Rc.less (ls2 := [.ref 280, UU, UU, .int y3_37, UU, UU, UU, .int (0 : Int32), UU, UU]) (by refine ⟨Or.inr rfl, Or.inl rfl, Or.inl rfl, Or.inr rfl, Or.inl rfl, Or.inl rfl, Or.inl rfl, Or.inr rfl, Or.inl rfl, Or.inl rfl, trivial⟩) ?_
                    refine qmd_spread_L224_ok d hd _ (fun y3_41 M42 r Mz hs => ?_) _ y3_37 (0 : Int32) _ _ _ hs
                    · refine Rc.goL mt_1267 3 (f2 := (251, [.ref 280, UU, UU, .int y3_41, UU, UU, UU, .int y3_41, .int (0 : Int32), UU], [], gm M42)) (b := true) rfl rfl ?_
                      refine Rc.less (ls2 := [.ref 280, UU, UU, .int y3_41, UU, UU, UU, .int y3_41, .int (0 : Int32), UU]) (by refine ⟨Or.inr rfl, Or.inl rfl, Or.inl rfl, Or.inr rfl, Or.inl rfl, Or.inl rfl, Or.inl rfl, Or.inr rfl, Or.inr rfl, Or.inl rfl, trivial⟩) ?_
                      exact qmd_spread_L251_ok d hd _ y3_41 y3_41 (0 : Int32) _ _ _ hs
def qmd_share (x1 : Int32) (M : SM) : Option (Int32 × SM) :=
  ob (qmd_isFrame x1 M) (fun r1 M2 =>
  if r1 = 0 then
  (some ((0 : Int32), M2)) else
  (ck (ib 16 x1 && true) (
    some ((M2.1 327 (Int32.toNatClampNeg x1)), M2))))
theorem mt_1269 : MT 1269 K_1269 LN_12 := ⟨rfl, rfl, by decide +kernel⟩
theorem okm_1269 : OKm 1269 := ⟨⟨vE_1269, okL_12, by decide +kernel⟩, by decide +kernel, by decide +kernel, by decide +kernel⟩
set_option maxRecDepth 20000 in
theorem qmd_share_ok (d : Nat) (hd : 2 ≤ d) {x1 : Int32} {M : SM} {r : Int32} {Mz : SM} (hs : qmd_share x1 M = some (r, Mz)) : Ex d 1269 [.ref 280, .int x1] (gm M) (some (.int r), gm Mz) := by
  obtain ⟨d, rfl⟩ : ∃ d0, d = d0 + 1 := ⟨d - 1, by omega⟩
  refine Ex.of okm_1269 (by omega) (Nat.le_of_ble_eq_true rfl) ?_
  show Rc (d + 1) 1269 (0, [.ref 280, .int x1], [], gm M) _
  unfold qmd_share at hs
  refine Rc.goL mt_1269 1 (f2 := (2, [.ref 280, .int x1], [.int x1, .ref 280], gm M)) (b := true) rfl rfl ?_
  obtain ⟨r1, M2, he3, hs⟩ := ob_some hs
  refine Rc.callV (i := 205) (mid' := 1204) (av := [.int x1]) (rest := []) (v := some (.int r1)) (M1 := gm M2) (a := 280) rfl rfl rfl cw_1204 rfl (Nat.le_of_ble_eq_true rfl) rfl (Nat.le_of_ble_eq_true rfl) (qmd_isFrame_ok _ (by omega) he3) ?_
  by_cases h5 : r1 = 0
  · rw [if_pos h5] at hs
    refine Rc.goL mt_1269 0 (f2 := (if r1 = 0 then 17 else 8, [.ref 280, .int x1], [], gm M2)) (b := true) rfl rfl ?_
    rw [if_pos h5]
    refine Rc.goL mt_1269 0 (f2 := (18, [.ref 280, .int x1], [.int (0 : Int32)], gm M2)) (b := true) rfl rfl ?_
    obtain ⟨e1, e2⟩ := some_p hs; subst e1; subst e2
    exact Rc.ret (v := some (.int (0 : Int32))) rfl rfl
  · rw [if_neg h5] at hs
    refine Rc.goL mt_1269 0 (f2 := (if r1 = 0 then 17 else 8, [.ref 280, .int x1], [], gm M2)) (b := true) rfl rfl ?_
    rw [if_neg h5]
    obtain ⟨hb4, hs⟩ := ck_some hs
    refine Rc.goL mt_1269 4 (f2 := (18, [.ref 280, .int x1], [.int (M2.1 327 (Int32.toNatClampNeg x1))], gm M2)) (b := (ib 16 x1 && true)) rfl hb4 ?_
    obtain ⟨e1, e2⟩ := some_p hs; subst e1; subst e2
    exact Rc.ret (v := some (.int (M2.1 327 (Int32.toNatClampNeg x1)))) rfl rfl
def qmd_judge_L51 (k108 : Int32 → Int64 → SM → Option (Int64 × SM)) : Nat → Int32 → Int32 → Int64 → Int32 → SM → Option (Int64 × SM)
  | 0, _, _, _, _, _ => none
  | n + 1, x1, x2, x3, x5, M =>
    if x5 < x1 then
    (ck (ib 200 x5 && true) (
      if (24 : Int32) < ((M.1 289 (Int32.toNatClampNeg x5)) &&& (255 : Int32)) then
      (some ((-1000000000000 : Int64), M)) else
      (lt (x2 + ((M.1 289 (Int32.toNatClampNeg x5)) &&& (255 : Int32))) (fun (z5 : Int32) =>
        ck (ib 250 (((25 : Int32) * x5) + ((M.1 289 (Int32.toNatClampNeg x5)) &&& (255 : Int32))) && true) (
        lt (x3 + (M.2 328 (Int32.toNatClampNeg (((25 : Int32) * x5) + ((M.1 289 (Int32.toNatClampNeg x5)) &&& (255 : Int32)))))) (fun (z7 : Int64) =>
        qmd_judge_L51 k108 n x1 z5 z7 (x5 + (1 : Int32)) M)))))) else
    (k108 x2 x3 M)
def qmd_judge (x1 : Int32) (M : SM) : Option (Int64 × SM) :=
  if (M.1 280 68) = 0 then
  (some ((-1000000000000 : Int64), M)) else
  (if x1 < 0 then
    (some ((-1000000000000 : Int64), M)) else
    (if (M.1 280 13) < x1 then
      (some ((-1000000000000 : Int64), M)) else
      (ob (qmd_weighs M) (fun _ M1 =>
        if x1 = (M1.1 280 75) then
        (qmd_judge_L51 (fun y2_10 y3_11 M12 =>
          if y2_10 = (M12.1 280 71) then
            (some (y3_11, M12)) else
            (some ((-1000000000000 : Int64), M12))) FU x1 (0 : Int32) (0 : Int64) (0 : Int32) (wI M1 280 13 (0 : Int32))) else
        (some ((-1000000000000 : Int64), (wI M1 280 13 (0 : Int32))))))))
theorem mt_1270 : MT 1270 K_1270 LN_12 := ⟨rfl, rfl, by decide +kernel⟩
theorem okm_1270 : OKm 1270 := ⟨⟨vE_1270, okL_12, by decide +kernel⟩, by decide +kernel, by decide +kernel, by decide +kernel⟩
set_option maxRecDepth 20000 in
theorem qmd_judge_L51_ok (d : Nat) (hd : 6 ≤ d + 1) (k108 : Int32 → Int64 → SM → Option (Int64 × SM)) (hk108 : ∀ (y2 : Int32) (y3 : Int64) (M : SM) (r : Int64) (Mz : SM), k108 y2 y3 M = some (r, Mz) → Rc (d + 1) 1270 (108, [.ref 280, UU, .int y2, .long y3, UU, UU, UU], [], gm M) (some (.long r), gm Mz)) : ∀ (n : Nat) (x1 : Int32) (x2 : Int32) (x3 : Int64) (x5 : Int32) (M : SM) (r : Int64) (Mz : SM), qmd_judge_L51 k108 n x1 x2 x3 x5 M = some (r, Mz) → Rc (d + 1) 1270 (51, [.ref 280, .int x1, .int x2, .long x3, UU, .int x5, UU], [], gm M) (some (.long r), gm Mz) := by
  intro n
  induction n with
  | zero => intro x1 x2 x3 x5 M r Mz hs; cases hs
  | succ n ih =>
    intro x1 x2 x3 x5 M r Mz hs
    rw [qmd_judge_L51] at hs
    by_cases h9 : x5 < x1
    · rw [if_pos h9] at hs
      refine Rc.goL mt_1270 2 (f2 := (if x5 < x1 then 57 else 108, [.ref 280, .int x1, .int x2, .long x3, UU, .int x5, UU], [], gm M)) (b := true) rfl rfl ?_
      rw [if_pos h9]
      obtain ⟨hb4, hs⟩ := ck_some hs
      obtain ⟨hb4_0, hb4⟩ := and_t hb4
      refine Rc.goL mt_1270 6 (f2 := (70, [.ref 280, .int x1, .int x2, .long x3, UU, .int x5, .int ((M.1 289 (Int32.toNatClampNeg x5)) &&& (255 : Int32))], [], gm M)) (b := (ib 200 x5 && true)) rfl (and_i hb4_0 rfl) ?_
      by_cases h8 : (24 : Int32) < ((M.1 289 (Int32.toNatClampNeg x5)) &&& (255 : Int32))
      · rw [if_pos h8] at hs
        refine Rc.goL mt_1270 2 (f2 := (if (24 : Int32) < ((M.1 289 (Int32.toNatClampNeg x5)) &&& (255 : Int32)) then 77 else 81, [.ref 280, .int x1, .int x2, .long x3, UU, .int x5, .int ((M.1 289 (Int32.toNatClampNeg x5)) &&& (255 : Int32))], [], gm M)) (b := true) rfl rfl ?_
        rw [if_pos h8]
        refine Rc.goL mt_1270 0 (f2 := (80, [.ref 280, .int x1, .int x2, .long x3, UU, .int x5, .int ((M.1 289 (Int32.toNatClampNeg x5)) &&& (255 : Int32))], [.long (-1000000000000 : Int64)], gm M)) (b := true) rfl rfl ?_
        obtain ⟨e1, e2⟩ := some_p hs; subst e1; subst e2
        exact Rc.ret (v := some (.long (-1000000000000 : Int64))) rfl rfl
      · rw [if_neg h8] at hs
        refine Rc.goL mt_1270 2 (f2 := (if (24 : Int32) < ((M.1 289 (Int32.toNatClampNeg x5)) &&& (255 : Int32)) then 77 else 81, [.ref 280, .int x1, .int x2, .long x3, UU, .int x5, .int ((M.1 289 (Int32.toNatClampNeg x5)) &&& (255 : Int32))], [], gm M)) (b := true) rfl rfl ?_
        rw [if_neg h8]
        refine lt_g hs (fun z5 Hz5 hs => ?_)
        refine Rc.goL mt_1270 3 (f2 := (86, [.ref 280, .int x1, .int z5, .long x3, UU, .int x5, .int ((M.1 289 (Int32.toNatClampNeg x5)) &&& (255 : Int32))], [], gm M)) (b := true) (by subst Hz5; rfl) rfl ?_
        obtain ⟨hb6, hs⟩ := ck_some hs
        obtain ⟨hb6_0, hb6⟩ := and_t hb6
        refine Rc.goL mt_1270 6 (f2 := (98, [.ref 280, .int x1, .int z5, .long x3, UU, .int x5, .int ((M.1 289 (Int32.toNatClampNeg x5)) &&& (255 : Int32))], [.int ((M.1 289 (Int32.toNatClampNeg x5)) &&& (255 : Int32)), .int ((25 : Int32) * x5), .ref 328, .long x3], gm M)) (b := true) rfl rfl ?_
        refine lt_g hs (fun z7 Hz7 hs => ?_)
        refine Rc.goL mt_1270 3 (f2 := (102, [.ref 280, .int x1, .int z5, .long z7, UU, .int x5, .int ((M.1 289 (Int32.toNatClampNeg x5)) &&& (255 : Int32))], [], gm M)) (b := (ib 250 (((25 : Int32) * x5) + ((M.1 289 (Int32.toNatClampNeg x5)) &&& (255 : Int32))) && true)) (by subst Hz7; rfl) (and_i hb6_0 rfl) ?_
        refine Rc.goL mt_1270 1 (f2 := (51, [.ref 280, .int x1, .int z5, .long z7, UU, .int (x5 + (1 : Int32)), .int ((M.1 289 (Int32.toNatClampNeg x5)) &&& (255 : Int32))], [], gm M)) (b := true) rfl rfl ?_
        refine Rc.less (ls2 := [.ref 280, .int x1, .int z5, .long z7, UU, .int (x5 + (1 : Int32)), UU]) (by refine ⟨Or.inr rfl, Or.inr rfl, Or.inr rfl, Or.inr rfl, Or.inl rfl, Or.inr rfl, Or.inl rfl, trivial⟩) ?_
        exact ih x1 z5 z7 (x5 + (1 : Int32)) _ _ _ hs
    · rw [if_neg h9] at hs
      refine Rc.goL mt_1270 2 (f2 := (if x5 < x1 then 57 else 108, [.ref 280, .int x1, .int x2, .long x3, UU, .int x5, UU], [], gm M)) (b := true) rfl rfl ?_
      rw [if_neg h9]
      refine Rc.less (ls2 := [.ref 280, UU, .int x2, .long x3, UU, UU, UU]) (by refine ⟨Or.inr rfl, Or.inl rfl, Or.inr rfl, Or.inr rfl, Or.inl rfl, Or.inl rfl, Or.inl rfl, trivial⟩) ?_
      exact hk108 x2 x3 _ _ _ hs
set_option maxRecDepth 20000 in
theorem qmd_judge_ok (d : Nat) (hd : 6 ≤ d) {x1 : Int32} {M : SM} {r : Int64} {Mz : SM} (hs : qmd_judge x1 M = some (r, Mz)) : Ex d 1270 [.ref 280, .int x1] (gm M) (some (.long r), gm Mz) := by
  obtain ⟨d, rfl⟩ : ∃ d0, d = d0 + 1 := ⟨d - 1, by omega⟩
  refine Ex.of okm_1270 (by omega) (Nat.le_of_ble_eq_true rfl) ?_
  show Rc (d + 1) 1270 (0, [.ref 280, .int x1, UU, UU, UU, UU, UU], [], gm M) _
  unfold qmd_judge at hs
  by_cases h17 : (M.1 280 68) = 0
  · rw [if_pos h17] at hs
    refine Rc.goL mt_1270 2 (f2 := (if (M.1 280 68) = 0 then 19 else 7, [.ref 280, .int x1, UU, UU, UU, UU, UU], [], gm M)) (b := true) rfl rfl ?_
    rw [if_pos h17]
    refine Rc.goL mt_1270 0 (f2 := (22, [.ref 280, .int x1, UU, UU, UU, UU, UU], [.long (-1000000000000 : Int64)], gm M)) (b := true) rfl rfl ?_
    obtain ⟨e1, e2⟩ := some_p hs; subst e1; subst e2
    exact Rc.ret (v := some (.long (-1000000000000 : Int64))) rfl rfl
  · rw [if_neg h17] at hs
    refine Rc.goL mt_1270 2 (f2 := (if (M.1 280 68) = 0 then 19 else 7, [.ref 280, .int x1, UU, UU, UU, UU, UU], [], gm M)) (b := true) rfl rfl ?_
    rw [if_neg h17]
    by_cases h16 : x1 < 0
    · rw [if_pos h16] at hs
      refine Rc.goL mt_1270 1 (f2 := (if x1 < 0 then 19 else 11, [.ref 280, .int x1, UU, UU, UU, UU, UU], [], gm M)) (b := true) rfl rfl ?_
      rw [if_pos h16]
      refine Rc.goL mt_1270 0 (f2 := (22, [.ref 280, .int x1, UU, UU, UU, UU, UU], [.long (-1000000000000 : Int64)], gm M)) (b := true) rfl rfl ?_
      obtain ⟨e1, e2⟩ := some_p hs; subst e1; subst e2
      exact Rc.ret (v := some (.long (-1000000000000 : Int64))) rfl rfl
    · rw [if_neg h16] at hs
      refine Rc.goL mt_1270 1 (f2 := (if x1 < 0 then 19 else 11, [.ref 280, .int x1, UU, UU, UU, UU, UU], [], gm M)) (b := true) rfl rfl ?_
      rw [if_neg h16]
      by_cases h15 : (M.1 280 13) < x1
      · rw [if_pos h15] at hs
        refine Rc.goL mt_1270 3 (f2 := (if (M.1 280 13) < x1 then 19 else 23, [.ref 280, .int x1, UU, UU, UU, UU, UU], [], gm M)) (b := true) rfl rfl ?_
        rw [if_pos h15]
        refine Rc.goL mt_1270 0 (f2 := (22, [.ref 280, .int x1, UU, UU, UU, UU, UU], [.long (-1000000000000 : Int64)], gm M)) (b := true) rfl rfl ?_
        obtain ⟨e1, e2⟩ := some_p hs; subst e1; subst e2
        exact Rc.ret (v := some (.long (-1000000000000 : Int64))) rfl rfl
      · rw [if_neg h15] at hs
        refine Rc.goL mt_1270 3 (f2 := (if (M.1 280 13) < x1 then 19 else 23, [.ref 280, .int x1, UU, UU, UU, UU, UU], [], gm M)) (b := true) rfl rfl ?_
        rw [if_neg h15]
        refine Rc.goL mt_1270 0 (f2 := (24, [.ref 280, .int x1, UU, UU, UU, UU, UU], [.ref 280], gm M)) (b := true) rfl rfl ?_
        obtain ⟨u3, M1, he2, hs⟩ := ob_some hs
        refine Rc.callV (i := 444) (mid' := 1266) (av := []) (rest := []) (v := none) (M1 := gm M1) (a := 280) rfl rfl rfl cw_1266 rfl (Nat.le_of_ble_eq_true rfl) rfl (Nat.le_of_ble_eq_true rfl) (qmd_weighs_ok _ (by omega) he2) ?_
        refine Rc.goL mt_1270 2 (f2 := (32, [.ref 280, .int x1, UU, UU, UU, UU, UU], [], gm (wI M1 280 13 (0 : Int32)))) (b := true) rfl rfl ?_
        by_cases h14 : x1 = (M1.1 280 75)
        · rw [if_pos h14] at hs
          refine Rc.goL mt_1270 3 (f2 := (if x1 = (M1.1 280 75) then 44 else 40, [.ref 280, .int x1, UU, UU, UU, UU, UU], [], gm (wI M1 280 13 (0 : Int32)))) (b := true) rfl rfl ?_
          rw [if_pos h14]
          refine Rc.goL mt_1270 5 (f2 := (51, [.ref 280, .int x1, .int (0 : Int32), .long (0 : Int64), UU, .int (0 : Int32), UU], [], gm (wI M1 280 13 (0 : Int32)))) (b := true) rfl rfl ?_
          refine Rc.less (ls2 := [.ref 280, .int x1, .int (0 : Int32), .long (0 : Int64), UU, .int (0 : Int32), UU]) (by refine ⟨Or.inr rfl, Or.inr rfl, Or.inr rfl, Or.inr rfl, Or.inl rfl, Or.inr rfl, Or.inl rfl, trivial⟩) ?_
          refine qmd_judge_L51_ok d hd _ (fun y2_10 y3_11 M12 r Mz hs => ?_) _ x1 (0 : Int32) (0 : Int64) (0 : Int32) _ _ _ hs
          · by_cases h13 : y2_10 = (M12.1 280 71)
            · rw [if_pos h13] at hs
              refine Rc.goL mt_1270 3 (f2 := (if y2_10 = (M12.1 280 71) then 116 else 120, [.ref 280, UU, .int y2_10, .long y3_11, UU, UU, UU], [], gm M12)) (b := true) rfl rfl ?_
              rw [if_pos h13]
              refine Rc.goL mt_1270 1 (f2 := (123, [.ref 280, UU, .int y2_10, .long y3_11, UU, UU, UU], [.long y3_11], gm M12)) (b := true) rfl rfl ?_
              obtain ⟨e1, e2⟩ := some_p hs; subst e1; subst e2
              exact Rc.ret (v := some (.long y3_11)) rfl rfl
            · rw [if_neg h13] at hs
              refine Rc.goL mt_1270 3 (f2 := (if y2_10 = (M12.1 280 71) then 116 else 120, [.ref 280, UU, .int y2_10, .long y3_11, UU, UU, UU], [], gm M12)) (b := true) rfl rfl ?_
              rw [if_neg h13]
              refine Rc.goL mt_1270 0 (f2 := (123, [.ref 280, UU, .int y2_10, .long y3_11, UU, UU, UU], [.long (-1000000000000 : Int64)], gm M12)) (b := true) rfl rfl ?_
              obtain ⟨e1, e2⟩ := some_p hs; subst e1; subst e2
              exact Rc.ret (v := some (.long (-1000000000000 : Int64))) rfl rfl
        · rw [if_neg h14] at hs
          refine Rc.goL mt_1270 3 (f2 := (if x1 = (M1.1 280 75) then 44 else 40, [.ref 280, .int x1, UU, UU, UU, UU, UU], [], gm (wI M1 280 13 (0 : Int32)))) (b := true) rfl rfl ?_
          rw [if_neg h14]
          refine Rc.goL mt_1270 0 (f2 := (43, [.ref 280, .int x1, UU, UU, UU, UU, UU], [.long (-1000000000000 : Int64)], gm (wI M1 280 13 (0 : Int32)))) (b := true) rfl rfl ?_
          obtain ⟨e1, e2⟩ := some_p hs; subst e1; subst e2
          exact Rc.ret (v := some (.long (-1000000000000 : Int64))) rfl rfl
def qmd_beside_L91 (k129 : Int32 → Int32 → Int32 → Int32 → Int64 → Int32 → SM → Option (Int64 × SM)) : Nat → Int32 → Int32 → Int32 → Int32 → Int64 → Int32 → Int32 → SM → Option (Int64 × SM)
  | 0, _, _, _, _, _, _, _, _ => none
  | n + 1, x1, x2, x3, x4, x5, x7, x8, M =>
    if x4 < x8 then
    (k129 x1 x2 x3 x4 x5 x7 M) else
    (ob (qmd_weekOf x7 x8 x2 M) (fun r14 M15 =>
      if r14 = 0 then
      (qmd_beside_L91 k129 n x1 x2 x3 x4 (x5 + (0 : Int64)) x7 (x8 + (1 : Int32)) M15) else
      (ob (qmd_left M15) (fun r17 M18 =>
        qmd_beside_L91 k129 n x1 x2 x3 x4 (x5 + r17) x7 (x8 + (1 : Int32)) M18))))
def qmd_beside_L55 : Nat → Int32 → Int32 → Int32 → Int32 → Int64 → Int32 → SM → Option (Int64 × SM)
  | 0, _, _, _, _, _, _, _ => none
  | n + 1, x1, x2, x3, x4, x5, x7, M =>
    if x7 < (M.1 280 3) then
    (ck (ib 16 x7 && true) (
      if (M.1 284 (Int32.toNatClampNeg x7)) = x1 then
      (ob (qmd_goesThrough x7 (M.1 280 0) M) (fun _ M11 =>
        qmd_beside_L91 (fun y1_22 y2_23 y3_24 y4_25 y5_26 y7_27 M28 =>
        qmd_beside_L55 n y1_22 y2_23 y3_24 y4_25 y5_26 (y7_27 + (1 : Int32)) M28) FU x1 x2 x3 x4 x5 x7 x3 M11)) else
      (qmd_beside_L55 n x1 x2 x3 x4 x5 (x7 + (1 : Int32)) M))) else
    (some (x5, M))
def qmd_beside (x1 : Int32) (x2 : Int32) (x3 : Int32) (x4 : Int32) (M : SM) : Option (Int64 × SM) :=
  ob (qmd_isMaster x1 M) (fun r1 M2 =>
  if r1 = 0 then
  (some ((-1000000000000 : Int64), M2)) else
  (if x2 < 0 then
    (some ((-1000000000000 : Int64), M2)) else
    (if x2 < (M2.1 280 27) then
      (ob (qmd_in x3 (0 : Int32) (M2.1 280 0) M2) (fun r4 M5 =>
        if r4 = 0 then
        (some ((-1000000000000 : Int64), M5)) else
        (ob (qmd_in x4 x3 (M5.1 280 0) M5) (fun r7 M8 =>
          if r7 = 0 then
          (some ((-1000000000000 : Int64), M8)) else
          (qmd_beside_L55 FU x1 x2 x3 x4 (0 : Int64) (0 : Int32) M8))))) else
      (some ((-1000000000000 : Int64), M2)))))
theorem mt_1271 : MT 1271 K_1271 LN_12 := ⟨rfl, rfl, by decide +kernel⟩
theorem okm_1271 : OKm 1271 := ⟨⟨vE_1271, okL_12, by decide +kernel⟩, by decide +kernel, by decide +kernel, by decide +kernel⟩
set_option maxRecDepth 20000 in
theorem qmd_beside_L91_ok (d : Nat) (hd : 6 ≤ d + 1) (k129 : Int32 → Int32 → Int32 → Int32 → Int64 → Int32 → SM → Option (Int64 × SM)) (hk129 : ∀ (y1 : Int32) (y2 : Int32) (y3 : Int32) (y4 : Int32) (y5 : Int64) (y7 : Int32) (M : SM) (r : Int64) (Mz : SM), k129 y1 y2 y3 y4 y5 y7 M = some (r, Mz) → Rc (d + 1) 1271 (129, [.ref 280, .int y1, .int y2, .int y3, .int y4, .long y5, UU, .int y7, UU], [], gm M) (some (.long r), gm Mz)) : ∀ (n : Nat) (x1 : Int32) (x2 : Int32) (x3 : Int32) (x4 : Int32) (x5 : Int64) (x7 : Int32) (x8 : Int32) (M : SM) (r : Int64) (Mz : SM), qmd_beside_L91 k129 n x1 x2 x3 x4 x5 x7 x8 M = some (r, Mz) → Rc (d + 1) 1271 (91, [.ref 280, .int x1, .int x2, .int x3, .int x4, .long x5, UU, .int x7, .int x8], [], gm M) (some (.long r), gm Mz) := by
  intro n
  induction n with
  | zero => intro x1 x2 x3 x4 x5 x7 x8 M r Mz hs; cases hs
  | succ n ih =>
    intro x1 x2 x3 x4 x5 x7 x8 M r Mz hs
    rw [qmd_beside_L91] at hs
    by_cases h21 : x4 < x8
    · rw [if_pos h21] at hs
      refine Rc.goL mt_1271 2 (f2 := (if x4 < x8 then 129 else 98, [.ref 280, .int x1, .int x2, .int x3, .int x4, .long x5, UU, .int x7, .int x8], [], gm M)) (b := true) rfl rfl ?_
      rw [if_pos h21]
      refine Rc.less (ls2 := [.ref 280, .int x1, .int x2, .int x3, .int x4, .long x5, UU, .int x7, UU]) (by refine ⟨Or.inr rfl, Or.inr rfl, Or.inr rfl, Or.inr rfl, Or.inr rfl, Or.inr rfl, Or.inl rfl, Or.inr rfl, Or.inl rfl, trivial⟩) ?_
      exact hk129 x1 x2 x3 x4 x5 x7 _ _ _ hs
    · rw [if_neg h21] at hs
      refine Rc.goL mt_1271 2 (f2 := (if x4 < x8 then 129 else 98, [.ref 280, .int x1, .int x2, .int x3, .int x4, .long x5, UU, .int x7, .int x8], [], gm M)) (b := true) rfl rfl ?_
      rw [if_neg h21]
      refine Rc.goL mt_1271 4 (f2 := (106, [.ref 280, .int x1, .int x2, .int x3, .int x4, .long x5, UU, .int x7, .int x8], [.int x2, .int x8, .int x7, .ref 280, .long x5], gm M)) (b := true) rfl rfl ?_
      obtain ⟨r14, M15, he16, hs⟩ := ob_some hs
      refine Rc.callV (i := 392) (mid' := 1257) (av := [.int x7, .int x8, .int x2]) (rest := [.long x5]) (v := some (.int r14)) (M1 := gm M15) (a := 280) rfl rfl rfl cw_1257 rfl (Nat.le_of_ble_eq_true rfl) rfl (Nat.le_of_ble_eq_true rfl) (qmd_weekOf_ok _ (by omega) he16) ?_
      by_cases h20 : r14 = 0
      · rw [if_pos h20] at hs
        refine Rc.goL mt_1271 0 (f2 := (if r14 = 0 then 119 else 112, [.ref 280, .int x1, .int x2, .int x3, .int x4, .long x5, UU, .int x7, .int x8], [.long x5], gm M15)) (b := true) rfl rfl ?_
        rw [if_pos h20]
        refine Rc.goL mt_1271 0 (f2 := (120, [.ref 280, .int x1, .int x2, .int x3, .int x4, .long x5, UU, .int x7, .int x8], [.long (0 : Int64), .long x5], gm M15)) (b := true) rfl rfl ?_
        refine Rc.goL mt_1271 3 (f2 := (91, [.ref 280, .int x1, .int x2, .int x3, .int x4, .long (x5 + (0 : Int64)), UU, .int x7, .int (x8 + (1 : Int32))], [], gm M15)) (b := true) rfl rfl ?_
        refine Rc.less (ls2 := [.ref 280, .int x1, .int x2, .int x3, .int x4, .long (x5 + (0 : Int64)), UU, .int x7, .int (x8 + (1 : Int32))]) (by refine ⟨Or.inr rfl, Or.inr rfl, Or.inr rfl, Or.inr rfl, Or.inr rfl, Or.inr rfl, Or.inl rfl, Or.inr rfl, Or.inr rfl, trivial⟩) ?_
        exact ih x1 x2 x3 x4 (x5 + (0 : Int64)) x7 (x8 + (1 : Int32)) _ _ _ hs
      · rw [if_neg h20] at hs
        refine Rc.goL mt_1271 0 (f2 := (if r14 = 0 then 119 else 112, [.ref 280, .int x1, .int x2, .int x3, .int x4, .long x5, UU, .int x7, .int x8], [.long x5], gm M15)) (b := true) rfl rfl ?_
        rw [if_neg h20]
        refine Rc.goL mt_1271 0 (f2 := (113, [.ref 280, .int x1, .int x2, .int x3, .int x4, .long x5, UU, .int x7, .int x8], [.ref 280, .long x5], gm M15)) (b := true) rfl rfl ?_
        obtain ⟨r17, M18, he19, hs⟩ := ob_some hs
        refine Rc.callV (i := 376) (mid' := 1255) (av := []) (rest := [.long x5]) (v := some (.long r17)) (M1 := gm M18) (a := 280) rfl rfl rfl cw_1255 rfl (Nat.le_of_ble_eq_true rfl) rfl (Nat.le_of_ble_eq_true rfl) (qmd_left_ok _ (by omega) he19) ?_
        refine Rc.goL mt_1271 0 (f2 := (120, [.ref 280, .int x1, .int x2, .int x3, .int x4, .long x5, UU, .int x7, .int x8], [.long r17, .long x5], gm M18)) (b := true) rfl rfl ?_
        refine Rc.goL mt_1271 3 (f2 := (91, [.ref 280, .int x1, .int x2, .int x3, .int x4, .long (x5 + r17), UU, .int x7, .int (x8 + (1 : Int32))], [], gm M18)) (b := true) rfl rfl ?_
        refine Rc.less (ls2 := [.ref 280, .int x1, .int x2, .int x3, .int x4, .long (x5 + r17), UU, .int x7, .int (x8 + (1 : Int32))]) (by refine ⟨Or.inr rfl, Or.inr rfl, Or.inr rfl, Or.inr rfl, Or.inr rfl, Or.inr rfl, Or.inl rfl, Or.inr rfl, Or.inr rfl, trivial⟩) ?_
        exact ih x1 x2 x3 x4 (x5 + r17) x7 (x8 + (1 : Int32)) _ _ _ hs
set_option maxRecDepth 20000 in
theorem qmd_beside_L55_ok (d : Nat) (hd : 6 ≤ d + 1) : ∀ (n : Nat) (x1 : Int32) (x2 : Int32) (x3 : Int32) (x4 : Int32) (x5 : Int64) (x7 : Int32) (M : SM) (r : Int64) (Mz : SM), qmd_beside_L55 n x1 x2 x3 x4 x5 x7 M = some (r, Mz) → Rc (d + 1) 1271 (55, [.ref 280, .int x1, .int x2, .int x3, .int x4, .long x5, UU, .int x7, UU], [], gm M) (some (.long r), gm Mz) := by
  intro n
  induction n with
  | zero => intro x1 x2 x3 x4 x5 x7 M r Mz hs; cases hs
  | succ n ih =>
    intro x1 x2 x3 x4 x5 x7 M r Mz hs
    rw [qmd_beside_L55] at hs
    by_cases h30 : x7 < (M.1 280 3)
    · rw [if_pos h30] at hs
      refine Rc.goL mt_1271 3 (f2 := (if x7 < (M.1 280 3) then 64 else 135, [.ref 280, .int x1, .int x2, .int x3, .int x4, .long x5, UU, .int x7, UU], [], gm M)) (b := true) rfl rfl ?_
      rw [if_pos h30]
      obtain ⟨hb10, hs⟩ := ck_some hs
      by_cases h29 : (M.1 284 (Int32.toNatClampNeg x7)) = x1
      · rw [if_pos h29] at hs
        refine Rc.goL mt_1271 5 (f2 := (if (M.1 284 (Int32.toNatClampNeg x7)) = x1 then 78 else 75, [.ref 280, .int x1, .int x2, .int x3, .int x4, .long x5, UU, .int x7, UU], [], gm M)) (b := (ib 16 x7 && true)) rfl hb10 ?_
        rw [if_pos h29]
        refine Rc.goL mt_1271 3 (f2 := (85, [.ref 280, .int x1, .int x2, .int x3, .int x4, .long x5, UU, .int x7, UU], [.int (M.1 280 0), .int x7, .ref 280], gm M)) (b := true) rfl rfl ?_
        obtain ⟨u13, M11, he12, hs⟩ := ob_some hs
        refine Rc.callV (i := 389) (mid' := 1250) (av := [.int x7, .int (M.1 280 0)]) (rest := []) (v := none) (M1 := gm M11) (a := 280) rfl rfl rfl cw_1250 rfl (Nat.le_of_ble_eq_true rfl) rfl (Nat.le_of_ble_eq_true rfl) (qmd_goesThrough_ok _ (by omega) he12) ?_
        refine Rc.goL mt_1271 1 (f2 := (91, [.ref 280, .int x1, .int x2, .int x3, .int x4, .long x5, UU, .int x7, .int x3], [], gm M11)) (b := true) rfl rfl ?_
        refine Rc.less (ls2 := [.ref 280, .int x1, .int x2, .int x3, .int x4, .long x5, UU, .int x7, .int x3]) (by refine ⟨Or.inr rfl, Or.inr rfl, Or.inr rfl, Or.inr rfl, Or.inr rfl, Or.inr rfl, Or.inl rfl, Or.inr rfl, Or.inr rfl, trivial⟩) ?_
        refine qmd_beside_L91_ok d hd _ (fun y1_22 y2_23 y3_24 y4_25 y5_26 y7_27 M28 r Mz hs => ?_) _ x1 x2 x3 x4 x5 x7 x3 _ _ _ hs
        · refine Rc.goL mt_1271 1 (f2 := (55, [.ref 280, .int y1_22, .int y2_23, .int y3_24, .int y4_25, .long y5_26, UU, .int (y7_27 + (1 : Int32)), UU], [], gm M28)) (b := true) rfl rfl ?_
          refine Rc.less (ls2 := [.ref 280, .int y1_22, .int y2_23, .int y3_24, .int y4_25, .long y5_26, UU, .int (y7_27 + (1 : Int32)), UU]) (by refine ⟨Or.inr rfl, Or.inr rfl, Or.inr rfl, Or.inr rfl, Or.inr rfl, Or.inr rfl, Or.inl rfl, Or.inr rfl, Or.inl rfl, trivial⟩) ?_
          exact ih y1_22 y2_23 y3_24 y4_25 y5_26 (y7_27 + (1 : Int32)) _ _ _ hs
      · rw [if_neg h29] at hs
        refine Rc.goL mt_1271 5 (f2 := (if (M.1 284 (Int32.toNatClampNeg x7)) = x1 then 78 else 75, [.ref 280, .int x1, .int x2, .int x3, .int x4, .long x5, UU, .int x7, UU], [], gm M)) (b := (ib 16 x7 && true)) rfl hb10 ?_
        rw [if_neg h29]
        refine Rc.goL mt_1271 0 (f2 := (129, [.ref 280, .int x1, .int x2, .int x3, .int x4, .long x5, UU, .int x7, UU], [], gm M)) (b := true) rfl rfl ?_
        refine Rc.goL mt_1271 1 (f2 := (55, [.ref 280, .int x1, .int x2, .int x3, .int x4, .long x5, UU, .int (x7 + (1 : Int32)), UU], [], gm M)) (b := true) rfl rfl ?_
        refine Rc.less (ls2 := [.ref 280, .int x1, .int x2, .int x3, .int x4, .long x5, UU, .int (x7 + (1 : Int32)), UU]) (by refine ⟨Or.inr rfl, Or.inr rfl, Or.inr rfl, Or.inr rfl, Or.inr rfl, Or.inr rfl, Or.inl rfl, Or.inr rfl, Or.inl rfl, trivial⟩) ?_
        exact ih x1 x2 x3 x4 x5 (x7 + (1 : Int32)) _ _ _ hs
    · rw [if_neg h30] at hs
      refine Rc.goL mt_1271 3 (f2 := (if x7 < (M.1 280 3) then 64 else 135, [.ref 280, .int x1, .int x2, .int x3, .int x4, .long x5, UU, .int x7, UU], [], gm M)) (b := true) rfl rfl ?_
      rw [if_neg h30]
      refine Rc.goL mt_1271 0 (f2 := (137, [.ref 280, .int x1, .int x2, .int x3, .int x4, .long x5, UU, .int x7, UU], [.long x5], gm M)) (b := true) rfl rfl ?_
      obtain ⟨e1, e2⟩ := some_p hs; subst e1; subst e2
      exact Rc.ret (v := some (.long x5)) rfl rfl
set_option maxRecDepth 20000 in
theorem qmd_beside_ok (d : Nat) (hd : 6 ≤ d) {x1 : Int32} {x2 : Int32} {x3 : Int32} {x4 : Int32} {M : SM} {r : Int64} {Mz : SM} (hs : qmd_beside x1 x2 x3 x4 M = some (r, Mz)) : Ex d 1271 [.ref 280, .int x1, .int x2, .int x3, .int x4] (gm M) (some (.long r), gm Mz) := by
  obtain ⟨d, rfl⟩ : ∃ d0, d = d0 + 1 := ⟨d - 1, by omega⟩
  refine Ex.of okm_1271 (by omega) (Nat.le_of_ble_eq_true rfl) ?_
  show Rc (d + 1) 1271 (0, [.ref 280, .int x1, .int x2, .int x3, .int x4, UU, UU, UU, UU], [], gm M) _
  unfold qmd_beside at hs
  refine Rc.goL mt_1271 1 (f2 := (2, [.ref 280, .int x1, .int x2, .int x3, .int x4, UU, UU, UU, UU], [.int x1, .ref 280], gm M)) (b := true) rfl rfl ?_
  obtain ⟨r1, M2, he3, hs⟩ := ob_some hs
  refine Rc.callV (i := 191) (mid' := 1202) (av := [.int x1]) (rest := []) (v := some (.int r1)) (M1 := gm M2) (a := 280) rfl rfl rfl cw_1202 rfl (Nat.le_of_ble_eq_true rfl) rfl (Nat.le_of_ble_eq_true rfl) (qmd_isMaster_ok _ (by omega) he3) ?_
  by_cases h35 : r1 = 0
  · rw [if_pos h35] at hs
    refine Rc.goL mt_1271 0 (f2 := (if r1 = 0 then 45 else 8, [.ref 280, .int x1, .int x2, .int x3, .int x4, UU, UU, UU, UU], [], gm M2)) (b := true) rfl rfl ?_
    rw [if_pos h35]
    refine Rc.goL mt_1271 0 (f2 := (48, [.ref 280, .int x1, .int x2, .int x3, .int x4, UU, UU, UU, UU], [.long (-1000000000000 : Int64)], gm M2)) (b := true) rfl rfl ?_
    obtain ⟨e1, e2⟩ := some_p hs; subst e1; subst e2
    exact Rc.ret (v := some (.long (-1000000000000 : Int64))) rfl rfl
  · rw [if_neg h35] at hs
    refine Rc.goL mt_1271 0 (f2 := (if r1 = 0 then 45 else 8, [.ref 280, .int x1, .int x2, .int x3, .int x4, UU, UU, UU, UU], [], gm M2)) (b := true) rfl rfl ?_
    rw [if_neg h35]
    by_cases h34 : x2 < 0
    · rw [if_pos h34] at hs
      refine Rc.goL mt_1271 1 (f2 := (if x2 < 0 then 45 else 12, [.ref 280, .int x1, .int x2, .int x3, .int x4, UU, UU, UU, UU], [], gm M2)) (b := true) rfl rfl ?_
      rw [if_pos h34]
      refine Rc.goL mt_1271 0 (f2 := (48, [.ref 280, .int x1, .int x2, .int x3, .int x4, UU, UU, UU, UU], [.long (-1000000000000 : Int64)], gm M2)) (b := true) rfl rfl ?_
      obtain ⟨e1, e2⟩ := some_p hs; subst e1; subst e2
      exact Rc.ret (v := some (.long (-1000000000000 : Int64))) rfl rfl
    · rw [if_neg h34] at hs
      refine Rc.goL mt_1271 1 (f2 := (if x2 < 0 then 45 else 12, [.ref 280, .int x1, .int x2, .int x3, .int x4, UU, UU, UU, UU], [], gm M2)) (b := true) rfl rfl ?_
      rw [if_neg h34]
      by_cases h33 : x2 < (M2.1 280 27)
      · rw [if_pos h33] at hs
        refine Rc.goL mt_1271 3 (f2 := (if x2 < (M2.1 280 27) then 20 else 45, [.ref 280, .int x1, .int x2, .int x3, .int x4, UU, UU, UU, UU], [], gm M2)) (b := true) rfl rfl ?_
        rw [if_pos h33]
        refine Rc.goL mt_1271 3 (f2 := (26, [.ref 280, .int x1, .int x2, .int x3, .int x4, UU, UU, UU, UU], [.int (M2.1 280 0), .int (0 : Int32), .int x3], gm M2)) (b := true) rfl rfl ?_
        obtain ⟨r4, M5, he6, hs⟩ := ob_some hs
        refine Rc.callS (i := 195) (mid' := 1201) (av := [.int x3, .int (0 : Int32), .int (M2.1 280 0)]) (rest := []) (v := some (.int r4)) (M1 := gm M5) rfl (Or.inl rfl) rfl cw_1201 rfl (Nat.le_of_ble_eq_true rfl) (qmd_in_ok _ (by omega) he6) ?_
        by_cases h32 : r4 = 0
        · rw [if_pos h32] at hs
          refine Rc.goL mt_1271 0 (f2 := (if r4 = 0 then 45 else 32, [.ref 280, .int x1, .int x2, .int x3, .int x4, UU, UU, UU, UU], [], gm M5)) (b := true) rfl rfl ?_
          rw [if_pos h32]
          refine Rc.goL mt_1271 0 (f2 := (48, [.ref 280, .int x1, .int x2, .int x3, .int x4, UU, UU, UU, UU], [.long (-1000000000000 : Int64)], gm M5)) (b := true) rfl rfl ?_
          obtain ⟨e1, e2⟩ := some_p hs; subst e1; subst e2
          exact Rc.ret (v := some (.long (-1000000000000 : Int64))) rfl rfl
        · rw [if_neg h32] at hs
          refine Rc.goL mt_1271 0 (f2 := (if r4 = 0 then 45 else 32, [.ref 280, .int x1, .int x2, .int x3, .int x4, UU, UU, UU, UU], [], gm M5)) (b := true) rfl rfl ?_
          rw [if_neg h32]
          refine Rc.goL mt_1271 3 (f2 := (39, [.ref 280, .int x1, .int x2, .int x3, .int x4, UU, UU, UU, UU], [.int (M5.1 280 0), .int x3, .int x4], gm M5)) (b := true) rfl rfl ?_
          obtain ⟨r7, M8, he9, hs⟩ := ob_some hs
          refine Rc.callS (i := 195) (mid' := 1201) (av := [.int x4, .int x3, .int (M5.1 280 0)]) (rest := []) (v := some (.int r7)) (M1 := gm M8) rfl (Or.inl rfl) rfl cw_1201 rfl (Nat.le_of_ble_eq_true rfl) (qmd_in_ok _ (by omega) he9) ?_
          by_cases h31 : r7 = 0
          · rw [if_pos h31] at hs
            refine Rc.goL mt_1271 0 (f2 := (if r7 = 0 then 45 else 49, [.ref 280, .int x1, .int x2, .int x3, .int x4, UU, UU, UU, UU], [], gm M8)) (b := true) rfl rfl ?_
            rw [if_pos h31]
            refine Rc.goL mt_1271 0 (f2 := (48, [.ref 280, .int x1, .int x2, .int x3, .int x4, UU, UU, UU, UU], [.long (-1000000000000 : Int64)], gm M8)) (b := true) rfl rfl ?_
            obtain ⟨e1, e2⟩ := some_p hs; subst e1; subst e2
            exact Rc.ret (v := some (.long (-1000000000000 : Int64))) rfl rfl
          · rw [if_neg h31] at hs
            refine Rc.goL mt_1271 0 (f2 := (if r7 = 0 then 45 else 49, [.ref 280, .int x1, .int x2, .int x3, .int x4, UU, UU, UU, UU], [], gm M8)) (b := true) rfl rfl ?_
            rw [if_neg h31]
            refine Rc.goL mt_1271 3 (f2 := (55, [.ref 280, .int x1, .int x2, .int x3, .int x4, .long (0 : Int64), UU, .int (0 : Int32), UU], [], gm M8)) (b := true) rfl rfl ?_
            refine Rc.less (ls2 := [.ref 280, .int x1, .int x2, .int x3, .int x4, .long (0 : Int64), UU, .int (0 : Int32), UU]) (by refine ⟨Or.inr rfl, Or.inr rfl, Or.inr rfl, Or.inr rfl, Or.inr rfl, Or.inr rfl, Or.inl rfl, Or.inr rfl, Or.inl rfl, trivial⟩) ?_
            exact qmd_beside_L55_ok d hd _ x1 x2 x3 x4 (0 : Int64) (0 : Int32) _ _ _ hs
      · rw [if_neg h33] at hs
        refine Rc.goL mt_1271 3 (f2 := (if x2 < (M2.1 280 27) then 20 else 45, [.ref 280, .int x1, .int x2, .int x3, .int x4, UU, UU, UU, UU], [], gm M2)) (b := true) rfl rfl ?_
        rw [if_neg h33]
        refine Rc.goL mt_1271 0 (f2 := (48, [.ref 280, .int x1, .int x2, .int x3, .int x4, UU, UU, UU, UU], [.long (-1000000000000 : Int64)], gm M2)) (b := true) rfl rfl ?_
        obtain ⟨e1, e2⟩ := some_p hs; subst e1; subst e2
        exact Rc.ret (v := some (.long (-1000000000000 : Int64))) rfl rfl
