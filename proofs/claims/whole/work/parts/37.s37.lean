def qmd_lot (x1 : Int32) (M : SM) : Option (Int32 × SM) :=
  ob (qmd_in x1 (0 : Int32) (255 : Int32) M) (fun r1 M2 =>
  if r1 = 0 then
  (some ((-1 : Int32), M2)) else
  (if (M2.1 280 80) = (40 : Int32) then
    (some ((-1 : Int32), M2)) else
    (ck (ib 40 (M2.1 280 80) && true) (
      some ((((M2.1 280 80) + (1 : Int32)) - (1 : Int32)), (wI (wI M2 330 (Int32.toNatClampNeg (M2.1 280 80)) x1) 280 80 ((M2.1 280 80) + (1 : Int32))))))))
theorem mt_1272 : MT 1272 K_1272 LN_12 := ⟨rfl, rfl, by decide +kernel⟩
theorem okm_1272 : OKm 1272 := ⟨⟨vE_1272, okL_12, by decide +kernel⟩, by decide +kernel, by decide +kernel, by decide +kernel⟩
set_option maxRecDepth 20000 in
theorem qmd_lot_ok (d : Nat) (hd : 2 ≤ d) {x1 : Int32} {M : SM} {r : Int32} {Mz : SM} (hs : qmd_lot x1 M = some (r, Mz)) : Ex d 1272 [.ref 280, .int x1] (gm M) (some (.int r), gm Mz) := by
  obtain ⟨d, rfl⟩ : ∃ d0, d = d0 + 1 := ⟨d - 1, by omega⟩
  refine Ex.of okm_1272 (by omega) (Nat.le_of_ble_eq_true rfl) ?_
  show Rc (d + 1) 1272 (0, [.ref 280, .int x1], [], gm M) _
  unfold qmd_lot at hs
  refine Rc.goL mt_1272 2 (f2 := (5, [.ref 280, .int x1], [.int (255 : Int32), .int (0 : Int32), .int x1], gm M)) (b := true) rfl rfl ?_
  obtain ⟨r1, M2, he3, hs⟩ := ob_some hs
  refine Rc.callS (i := 195) (mid' := 1201) (av := [.int x1, .int (0 : Int32), .int (255 : Int32)]) (rest := []) (v := some (.int r1)) (M1 := gm M2) rfl (Or.inl rfl) rfl cw_1201 rfl (Nat.le_of_ble_eq_true rfl) (qmd_in_ok _ (by omega) he3) ?_
  by_cases h6 : r1 = 0
  · rw [if_pos h6] at hs
    refine Rc.goL mt_1272 0 (f2 := (if r1 = 0 then 20 else 11, [.ref 280, .int x1], [], gm M2)) (b := true) rfl rfl ?_
    rw [if_pos h6]
    refine Rc.goL mt_1272 0 (f2 := (21, [.ref 280, .int x1], [.int (-1 : Int32)], gm M2)) (b := true) rfl rfl ?_
    obtain ⟨e1, e2⟩ := some_p hs; subst e1; subst e2
    exact Rc.ret (v := some (.int (-1 : Int32))) rfl rfl
  · rw [if_neg h6] at hs
    refine Rc.goL mt_1272 0 (f2 := (if r1 = 0 then 20 else 11, [.ref 280, .int x1], [], gm M2)) (b := true) rfl rfl ?_
    rw [if_neg h6]
    by_cases h5 : (M2.1 280 80) = (40 : Int32)
    · rw [if_pos h5] at hs
      refine Rc.goL mt_1272 3 (f2 := (if (M2.1 280 80) = (40 : Int32) then 20 else 22, [.ref 280, .int x1], [], gm M2)) (b := true) rfl rfl ?_
      rw [if_pos h5]
      refine Rc.goL mt_1272 0 (f2 := (21, [.ref 280, .int x1], [.int (-1 : Int32)], gm M2)) (b := true) rfl rfl ?_
      obtain ⟨e1, e2⟩ := some_p hs; subst e1; subst e2
      exact Rc.ret (v := some (.int (-1 : Int32))) rfl rfl
    · rw [if_neg h5] at hs
      refine Rc.goL mt_1272 3 (f2 := (if (M2.1 280 80) = (40 : Int32) then 20 else 22, [.ref 280, .int x1], [], gm M2)) (b := true) rfl rfl ?_
      rw [if_neg h5]
      obtain ⟨hb4, hs⟩ := ck_some hs
      obtain ⟨hb4_0, hb4⟩ := and_t hb4
      refine Rc.goL mt_1272 5 (f2 := (32, [.ref 280, .int x1], [], gm (wI M2 330 (Int32.toNatClampNeg (M2.1 280 80)) x1))) (b := (ib 40 (M2.1 280 80) && true)) rfl (and_i hb4_0 rfl) ?_
      refine Rc.goL mt_1272 5 (f2 := (42, [.ref 280, .int x1], [], gm (wI (wI M2 330 (Int32.toNatClampNeg (M2.1 280 80)) x1) 280 80 ((M2.1 280 80) + (1 : Int32))))) (b := true) rfl rfl ?_
      refine Rc.goL mt_1272 3 (f2 := (48, [.ref 280, .int x1], [.int (((M2.1 280 80) + (1 : Int32)) - (1 : Int32))], gm (wI (wI M2 330 (Int32.toNatClampNeg (M2.1 280 80)) x1) 280 80 ((M2.1 280 80) + (1 : Int32))))) (b := true) rfl rfl ?_
      obtain ⟨e1, e2⟩ := some_p hs; subst e1; subst e2
      exact Rc.ret (v := some (.int (((M2.1 280 80) + (1 : Int32)) - (1 : Int32)))) rfl rfl
def qmd_isLot (x1 : Int32) (M : SM) : Option (Int32 × SM) :=
  if x1 < 0 then
  (some ((0 : Int32), M)) else
  (if x1 < (M.1 280 80) then
    (some ((1 : Int32), M)) else
    (some ((0 : Int32), M)))
theorem mt_1273 : MT 1273 K_1273 LN_12 := ⟨rfl, rfl, by decide +kernel⟩
theorem okm_1273 : OKm 1273 := ⟨⟨vE_1273, okL_12, by decide +kernel⟩, by decide +kernel, by decide +kernel, by decide +kernel⟩
set_option maxRecDepth 20000 in
theorem qmd_isLot_ok (d : Nat) (hd : 1 ≤ d) {x1 : Int32} {M : SM} {r : Int32} {Mz : SM} (hs : qmd_isLot x1 M = some (r, Mz)) : Ex d 1273 [.ref 280, .int x1] (gm M) (some (.int r), gm Mz) := by
  obtain ⟨d, rfl⟩ : ∃ d0, d = d0 + 1 := ⟨d - 1, by omega⟩
  refine Ex.of okm_1273 (by omega) (Nat.le_of_ble_eq_true rfl) ?_
  show Rc (d + 1) 1273 (0, [.ref 280, .int x1], [], gm M) _
  unfold qmd_isLot at hs
  by_cases h2 : x1 < 0
  · rw [if_pos h2] at hs
    refine Rc.goL mt_1273 1 (f2 := (if x1 < 0 then 16 else 4, [.ref 280, .int x1], [], gm M)) (b := true) rfl rfl ?_
    rw [if_pos h2]
    refine Rc.goL mt_1273 0 (f2 := (17, [.ref 280, .int x1], [.int (0 : Int32)], gm M)) (b := true) rfl rfl ?_
    obtain ⟨e1, e2⟩ := some_p hs; subst e1; subst e2
    exact Rc.ret (v := some (.int (0 : Int32))) rfl rfl
  · rw [if_neg h2] at hs
    refine Rc.goL mt_1273 1 (f2 := (if x1 < 0 then 16 else 4, [.ref 280, .int x1], [], gm M)) (b := true) rfl rfl ?_
    rw [if_neg h2]
    by_cases h1 : x1 < (M.1 280 80)
    · rw [if_pos h1] at hs
      refine Rc.goL mt_1273 3 (f2 := (if x1 < (M.1 280 80) then 12 else 16, [.ref 280, .int x1], [], gm M)) (b := true) rfl rfl ?_
      rw [if_pos h1]
      refine Rc.goL mt_1273 1 (f2 := (17, [.ref 280, .int x1], [.int (1 : Int32)], gm M)) (b := true) rfl rfl ?_
      obtain ⟨e1, e2⟩ := some_p hs; subst e1; subst e2
      exact Rc.ret (v := some (.int (1 : Int32))) rfl rfl
    · rw [if_neg h1] at hs
      refine Rc.goL mt_1273 3 (f2 := (if x1 < (M.1 280 80) then 12 else 16, [.ref 280, .int x1], [], gm M)) (b := true) rfl rfl ?_
      rw [if_neg h1]
      refine Rc.goL mt_1273 0 (f2 := (17, [.ref 280, .int x1], [.int (0 : Int32)], gm M)) (b := true) rfl rfl ?_
      obtain ⟨e1, e2⟩ := some_p hs; subst e1; subst e2
      exact Rc.ret (v := some (.int (0 : Int32))) rfl rfl
def qmd_told (x1 : Int32) (x2 : Int32) (M : SM) : Option (Int32 × SM) :=
  ob (qmd_isLot x1 M) (fun r1 M2 =>
  if r1 = 0 then
  (some ((0 : Int32), M2)) else
  (ob (qmd_in x2 (0 : Int32) (2 : Int32) M2) (fun r4 M5 =>
    if r4 = 0 then
    (some ((0 : Int32), M5)) else
    (ck (ib 40 x1 && true) (
      some ((1 : Int32), (wI M5 331 (Int32.toNatClampNeg x1) x2)))))))
theorem mt_1274 : MT 1274 K_1274 LN_12 := ⟨rfl, rfl, by decide +kernel⟩
theorem okm_1274 : OKm 1274 := ⟨⟨vE_1274, okL_12, by decide +kernel⟩, by decide +kernel, by decide +kernel, by decide +kernel⟩
set_option maxRecDepth 20000 in
theorem qmd_told_ok (d : Nat) (hd : 2 ≤ d) {x1 : Int32} {x2 : Int32} {M : SM} {r : Int32} {Mz : SM} (hs : qmd_told x1 x2 M = some (r, Mz)) : Ex d 1274 [.ref 280, .int x1, .int x2] (gm M) (some (.int r), gm Mz) := by
  obtain ⟨d, rfl⟩ : ∃ d0, d = d0 + 1 := ⟨d - 1, by omega⟩
  refine Ex.of okm_1274 (by omega) (Nat.le_of_ble_eq_true rfl) ?_
  show Rc (d + 1) 1274 (0, [.ref 280, .int x1, .int x2], [], gm M) _
  unfold qmd_told at hs
  refine Rc.goL mt_1274 1 (f2 := (2, [.ref 280, .int x1, .int x2], [.int x1, .ref 280], gm M)) (b := true) rfl rfl ?_
  obtain ⟨r1, M2, he3, hs⟩ := ob_some hs
  refine Rc.callV (i := 456) (mid' := 1273) (av := [.int x1]) (rest := []) (v := some (.int r1)) (M1 := gm M2) (a := 280) rfl rfl rfl cw_1273 rfl (Nat.le_of_ble_eq_true rfl) rfl (Nat.le_of_ble_eq_true rfl) (qmd_isLot_ok _ (by omega) he3) ?_
  by_cases h9 : r1 = 0
  · rw [if_pos h9] at hs
    refine Rc.goL mt_1274 0 (f2 := (if r1 = 0 then 17 else 8, [.ref 280, .int x1, .int x2], [], gm M2)) (b := true) rfl rfl ?_
    rw [if_pos h9]
    refine Rc.goL mt_1274 0 (f2 := (18, [.ref 280, .int x1, .int x2], [.int (0 : Int32)], gm M2)) (b := true) rfl rfl ?_
    obtain ⟨e1, e2⟩ := some_p hs; subst e1; subst e2
    exact Rc.ret (v := some (.int (0 : Int32))) rfl rfl
  · rw [if_neg h9] at hs
    refine Rc.goL mt_1274 0 (f2 := (if r1 = 0 then 17 else 8, [.ref 280, .int x1, .int x2], [], gm M2)) (b := true) rfl rfl ?_
    rw [if_neg h9]
    refine Rc.goL mt_1274 2 (f2 := (11, [.ref 280, .int x1, .int x2], [.int (2 : Int32), .int (0 : Int32), .int x2], gm M2)) (b := true) rfl rfl ?_
    obtain ⟨r4, M5, he6, hs⟩ := ob_some hs
    refine Rc.callS (i := 195) (mid' := 1201) (av := [.int x2, .int (0 : Int32), .int (2 : Int32)]) (rest := []) (v := some (.int r4)) (M1 := gm M5) rfl (Or.inl rfl) rfl cw_1201 rfl (Nat.le_of_ble_eq_true rfl) (qmd_in_ok _ (by omega) he6) ?_
    by_cases h8 : r4 = 0
    · rw [if_pos h8] at hs
      refine Rc.goL mt_1274 0 (f2 := (if r4 = 0 then 17 else 19, [.ref 280, .int x1, .int x2], [], gm M5)) (b := true) rfl rfl ?_
      rw [if_pos h8]
      refine Rc.goL mt_1274 0 (f2 := (18, [.ref 280, .int x1, .int x2], [.int (0 : Int32)], gm M5)) (b := true) rfl rfl ?_
      obtain ⟨e1, e2⟩ := some_p hs; subst e1; subst e2
      exact Rc.ret (v := some (.int (0 : Int32))) rfl rfl
    · rw [if_neg h8] at hs
      refine Rc.goL mt_1274 0 (f2 := (if r4 = 0 then 17 else 19, [.ref 280, .int x1, .int x2], [], gm M5)) (b := true) rfl rfl ?_
      rw [if_neg h8]
      obtain ⟨hb7, hs⟩ := ck_some hs
      obtain ⟨hb7_0, hb7⟩ := and_t hb7
      refine Rc.goL mt_1274 4 (f2 := (26, [.ref 280, .int x1, .int x2], [], gm (wI M5 331 (Int32.toNatClampNeg x1) x2))) (b := (ib 40 x1 && true)) rfl (and_i hb7_0 rfl) ?_
      refine Rc.goL mt_1274 0 (f2 := (27, [.ref 280, .int x1, .int x2], [.int (1 : Int32)], gm (wI M5 331 (Int32.toNatClampNeg x1) x2))) (b := true) rfl rfl ?_
      obtain ⟨e1, e2⟩ := some_p hs; subst e1; subst e2
      exact Rc.ret (v := some (.int (1 : Int32))) rfl rfl
def qmd_far_L5 : Nat → Int32 → Int32 → Int32 → Int32 → SM → Option (Int32 × SM)
  | 0, _, _, _, _, _ => none
  | n + 1, x1, x2, x3, x4, M =>
    if x4 < (8 : Int32) then
    (ck (ib 40 x1 && (ib 40 x2 && true)) (
      lt (x3 + ((((M.1 330 (Int32.toNatClampNeg x1)) ^^^ (M.1 330 (Int32.toNatClampNeg x2))) >>> (x4 &&& 31)) &&& (1 : Int32))) (fun (z2 : Int32) =>
      qmd_far_L5 n x1 x2 z2 (x4 + (1 : Int32)) M))) else
    (some (x3, M))
def qmd_far (x1 : Int32) (x2 : Int32) (M : SM) : Option (Int32 × SM) :=
  qmd_far_L5 FU x1 x2 (0 : Int32) (0 : Int32) M
theorem mt_1275 : MT 1275 K_1275 LN_12 := ⟨rfl, rfl, by decide +kernel⟩
theorem okm_1275 : OKm 1275 := ⟨⟨vE_1275, okL_12, by decide +kernel⟩, by decide +kernel, by decide +kernel, by decide +kernel⟩
set_option maxRecDepth 20000 in
theorem qmd_far_L5_ok (d : Nat) (hd : 1 ≤ d + 1) : ∀ (n : Nat) (x1 : Int32) (x2 : Int32) (x3 : Int32) (x4 : Int32) (M : SM) (r : Int32) (Mz : SM), qmd_far_L5 n x1 x2 x3 x4 M = some (r, Mz) → Rc (d + 1) 1275 (5, [.ref 280, .int x1, .int x2, .int x3, .int x4], [], gm M) (some (.int r), gm Mz) := by
  intro n
  induction n with
  | zero => intro x1 x2 x3 x4 M r Mz hs; cases hs
  | succ n ih =>
    intro x1 x2 x3 x4 M r Mz hs
    rw [qmd_far_L5] at hs
    by_cases h3 : x4 < (8 : Int32)
    · rw [if_pos h3] at hs
      refine Rc.goL mt_1275 2 (f2 := (if x4 < (8 : Int32) then 12 else 39, [.ref 280, .int x1, .int x2, .int x3, .int x4], [], gm M)) (b := true) rfl rfl ?_
      rw [if_pos h3]
      obtain ⟨hb1, hs⟩ := ck_some hs
      obtain ⟨hb1_0, hb1⟩ := and_t hb1
      obtain ⟨hb1_1, hb1⟩ := and_t hb1
      refine Rc.goL mt_1275 6 (f2 := (23, [.ref 280, .int x1, .int x2, .int x3, .int x4], [.ref 330, .int (M.1 330 (Int32.toNatClampNeg x1)), .int x3], gm M)) (b := (ib 40 x1 && true)) rfl (and_i hb1_0 rfl) ?_
      refine Rc.goL mt_1275 6 (f2 := (31, [.ref 280, .int x1, .int x2, .int x3, .int x4], [.int ((((M.1 330 (Int32.toNatClampNeg x1)) ^^^ (M.1 330 (Int32.toNatClampNeg x2))) >>> (x4 &&& 31)) &&& (1 : Int32)), .int x3], gm M)) (b := (ib 40 x2 && true)) rfl (and_i hb1_1 rfl) ?_
      refine lt_g hs (fun z2 Hz2 hs => ?_)
      refine Rc.goL mt_1275 1 (f2 := (33, [.ref 280, .int x1, .int x2, .int z2, .int x4], [], gm M)) (b := true) (by subst Hz2; rfl) rfl ?_
      refine Rc.goL mt_1275 1 (f2 := (5, [.ref 280, .int x1, .int x2, .int z2, .int (x4 + (1 : Int32))], [], gm M)) (b := true) rfl rfl ?_
      refine Rc.less (ls2 := [.ref 280, .int x1, .int x2, .int z2, .int (x4 + (1 : Int32))]) (by refine ⟨Or.inr rfl, Or.inr rfl, Or.inr rfl, Or.inr rfl, Or.inr rfl, trivial⟩) ?_
      exact ih x1 x2 z2 (x4 + (1 : Int32)) _ _ _ hs
    · rw [if_neg h3] at hs
      refine Rc.goL mt_1275 2 (f2 := (if x4 < (8 : Int32) then 12 else 39, [.ref 280, .int x1, .int x2, .int x3, .int x4], [], gm M)) (b := true) rfl rfl ?_
      rw [if_neg h3]
      refine Rc.goL mt_1275 0 (f2 := (40, [.ref 280, .int x1, .int x2, .int x3, .int x4], [.int x3], gm M)) (b := true) rfl rfl ?_
      obtain ⟨e1, e2⟩ := some_p hs; subst e1; subst e2
      exact Rc.ret (v := some (.int x3)) rfl rfl
set_option maxRecDepth 20000 in
theorem qmd_far_ok (d : Nat) (hd : 1 ≤ d) {x1 : Int32} {x2 : Int32} {M : SM} {r : Int32} {Mz : SM} (hs : qmd_far x1 x2 M = some (r, Mz)) : Ex d 1275 [.ref 280, .int x1, .int x2] (gm M) (some (.int r), gm Mz) := by
  obtain ⟨d, rfl⟩ : ∃ d0, d = d0 + 1 := ⟨d - 1, by omega⟩
  refine Ex.of okm_1275 (by omega) (Nat.le_of_ble_eq_true rfl) ?_
  show Rc (d + 1) 1275 (0, [.ref 280, .int x1, .int x2, UU, UU], [], gm M) _
  unfold qmd_far at hs
  refine Rc.goL mt_1275 3 (f2 := (5, [.ref 280, .int x1, .int x2, .int (0 : Int32), .int (0 : Int32)], [], gm M)) (b := true) rfl rfl ?_
  refine Rc.less (ls2 := [.ref 280, .int x1, .int x2, .int (0 : Int32), .int (0 : Int32)]) (by refine ⟨Or.inr rfl, Or.inr rfl, Or.inr rfl, Or.inr rfl, Or.inr rfl, trivial⟩) ?_
  exact qmd_far_L5_ok d hd _ x1 x2 (0 : Int32) (0 : Int32) _ _ _ hs
def qmd_is_L34 : Nat → Int32 → Int32 → Int32 → Int32 → SM → Option (Int32 × SM)
  | 0, _, _, _, _, _ => none
  | n + 1, x1, x2, x3, x4, M =>
    if x4 < (M.1 280 80) then
    (ck (ib 40 x4 && true) (
      if (M.1 331 (Int32.toNatClampNeg x4)) = 0 then
      (qmd_is_L34 n x1 x2 x3 (x4 + (1 : Int32)) M) else
      (ob (qmd_far x1 x4 M) (fun r6 M7 =>
        jn (fun (x1_9 : Int32) (x2_10 : Int32) (x3_11 : Int32) (x4_12 : Int32) (x5_13 : Int32) (M14 : SM) =>
          jn (fun (x1_15 : Int32) (x2_16 : Int32) (x3_17 : Int32) (x4_18 : Int32) (x5_19 : Int32) (M20 : SM) =>
              if x5_19 < x2_16 then
                (qmd_is_L34 n x1_15 x5_19 x3_17 (x4_18 + (1 : Int32)) M20) else
                (qmd_is_L34 n x1_15 x2_16 x3_17 (x4_18 + (1 : Int32)) M20)) (fun j22 =>
            if x2_10 < x5_13 then
            (j22 x1_9 x2_10 x3_11 x4_12 x5_13 M14) else
            (ck (ib 40 x4_12 && true) (
              j22 x1_9 x2_10 (x3_11 ||| (M14.1 331 (Int32.toNatClampNeg x4_12))) x4_12 x5_13 M14)))) (fun j25 =>
        if r6 < x2 then
        (j25 x1 x2 (0 : Int32) x4 r6 M7) else
        (j25 x1 x2 x3 x4 r6 M7)))))) else
    (some (x3, M))
def qmd_is (x1 : Int32) (M : SM) : Option (Int32 × SM) :=
  ob (qmd_isLot x1 M) (fun r1 M2 =>
  if r1 = 0 then
  (some ((-1 : Int32), M2)) else
  (ck (ib 40 x1 && true) (
    if (M2.1 331 (Int32.toNatClampNeg x1)) = 0 then
    (qmd_is_L34 FU x1 (9 : Int32) (0 : Int32) (0 : Int32) M2) else
    (ck (ib 40 x1 && true) (
      some ((M2.1 331 (Int32.toNatClampNeg x1)), M2))))))
theorem mt_1276 : MT 1276 K_1276 LN_12 := ⟨rfl, rfl, by decide +kernel⟩
theorem okm_1276 : OKm 1276 := ⟨⟨vE_1276, okL_12, by decide +kernel⟩, by decide +kernel, by decide +kernel, by decide +kernel⟩
set_option maxRecDepth 20000 in
theorem qmd_is_L34_ok (d : Nat) (hd : 2 ≤ d + 1) : ∀ (n : Nat) (x1 : Int32) (x2 : Int32) (x3 : Int32) (x4 : Int32) (M : SM) (r : Int32) (Mz : SM), qmd_is_L34 n x1 x2 x3 x4 M = some (r, Mz) → Rc (d + 1) 1276 (34, [.ref 280, .int x1, .int x2, .int x3, .int x4, UU], [], gm M) (some (.int r), gm Mz) := by
  intro n
  induction n with
  | zero => intro x1 x2 x3 x4 M r Mz hs; cases hs
  | succ n ih =>
    intro x1 x2 x3 x4 M r Mz hs
    rw [qmd_is_L34] at hs
    by_cases h28 : x4 < (M.1 280 80)
    · rw [if_pos h28] at hs
      refine Rc.goL mt_1276 3 (f2 := (if x4 < (M.1 280 80) then 43 else 108, [.ref 280, .int x1, .int x2, .int x3, .int x4, UU], [], gm M)) (b := true) rfl rfl ?_
      rw [if_pos h28]
      obtain ⟨hb5, hs⟩ := ck_some hs
      by_cases h27 : (M.1 331 (Int32.toNatClampNeg x4)) = 0
      · rw [if_pos h27] at hs
        refine Rc.goL mt_1276 4 (f2 := (if (M.1 331 (Int32.toNatClampNeg x4)) = 0 then 53 else 56, [.ref 280, .int x1, .int x2, .int x3, .int x4, UU], [], gm M)) (b := (ib 40 x4 && true)) rfl hb5 ?_
        rw [if_pos h27]
        refine Rc.goL mt_1276 0 (f2 := (102, [.ref 280, .int x1, .int x2, .int x3, .int x4, UU], [], gm M)) (b := true) rfl rfl ?_
        refine Rc.goL mt_1276 1 (f2 := (34, [.ref 280, .int x1, .int x2, .int x3, .int (x4 + (1 : Int32)), UU], [], gm M)) (b := true) rfl rfl ?_
        refine Rc.less (ls2 := [.ref 280, .int x1, .int x2, .int x3, .int (x4 + (1 : Int32)), UU]) (by refine ⟨Or.inr rfl, Or.inr rfl, Or.inr rfl, Or.inr rfl, Or.inr rfl, Or.inl rfl, trivial⟩) ?_
        exact ih x1 x2 x3 (x4 + (1 : Int32)) _ _ _ hs
      · rw [if_neg h27] at hs
        refine Rc.goL mt_1276 4 (f2 := (if (M.1 331 (Int32.toNatClampNeg x4)) = 0 then 53 else 56, [.ref 280, .int x1, .int x2, .int x3, .int x4, UU], [], gm M)) (b := (ib 40 x4 && true)) rfl hb5 ?_
        rw [if_neg h27]
        refine Rc.goL mt_1276 2 (f2 := (60, [.ref 280, .int x1, .int x2, .int x3, .int x4, UU], [.int x4, .int x1, .ref 280], gm M)) (b := true) rfl rfl ?_
        obtain ⟨r6, M7, he8, hs⟩ := ob_some hs
        refine Rc.callV (i := 459) (mid' := 1275) (av := [.int x1, .int x4]) (rest := []) (v := some (.int r6)) (M1 := gm M7) (a := 280) rfl rfl rfl cw_1275 rfl (Nat.le_of_ble_eq_true rfl) rfl (Nat.le_of_ble_eq_true rfl) (qmd_far_ok _ (by omega) he8) ?_
        refine jn_e (P := fun (j : Int32 → Int32 → Int32 → Int32 → Int32 → SM → Option (Int32 × SM)) => ∀ (x1_9 : Int32) (x2_10 : Int32) (x3_11 : Int32) (x4_12 : Int32) (x5_13 : Int32) (M14 : SM) (r : Int32) (Mz : SM), j x1_9 x2_10 x3_11 x4_12 x5_13 M14 = some (r, Mz) → Rc (d + 1) 1276 (73, [.ref 280, .int x1_9, .int x2_10, .int x3_11, .int x4_12, .int x5_13], [], gm M14) (some (.int r), gm Mz)) hs ?_ (fun j25 Hj25 hs => ?_)
        · intro x1_9 x2_10 x3_11 x4_12 x5_13 M14 r Mz hs
          try dsimp only at hs
          refine jn_e (P := fun (j : Int32 → Int32 → Int32 → Int32 → Int32 → SM → Option (Int32 × SM)) => ∀ (x1_15 : Int32) (x2_16 : Int32) (x3_17 : Int32) (x4_18 : Int32) (x5_19 : Int32) (M20 : SM) (r : Int32) (Mz : SM), j x1_15 x2_16 x3_17 x4_18 x5_19 M20 = some (r, Mz) → Rc (d + 1) 1276 (89, [.ref 280, .int x1_15, .int x2_16, .int x3_17, .int x4_18, .int x5_19], [], gm M20) (some (.int r), gm Mz)) hs ?_ (fun j22 Hj22 hs => ?_)
          · intro x1_15 x2_16 x3_17 x4_18 x5_19 M20 r Mz hs
            try dsimp only at hs
            by_cases h21 : x5_19 < x2_16
            · rw [if_pos h21] at hs
              refine Rc.goL mt_1276 2 (f2 := (if x5_19 < x2_16 then 95 else 100, [.ref 280, .int x1_15, .int x2_16, .int x3_17, .int x4_18, .int x5_19], [], gm M20)) (b := true) rfl rfl ?_
              rw [if_pos h21]
              refine Rc.goL mt_1276 1 (f2 := (101, [.ref 280, .int x1_15, .int x2_16, .int x3_17, .int x4_18, .int x5_19], [.int x5_19], gm M20)) (b := true) rfl rfl ?_
              refine Rc.goL mt_1276 0 (f2 := (102, [.ref 280, .int x1_15, .int x5_19, .int x3_17, .int x4_18, .int x5_19], [], gm M20)) (b := true) rfl rfl ?_
              refine Rc.goL mt_1276 1 (f2 := (34, [.ref 280, .int x1_15, .int x5_19, .int x3_17, .int (x4_18 + (1 : Int32)), .int x5_19], [], gm M20)) (b := true) rfl rfl ?_
              refine Rc.less (ls2 := [.ref 280, .int x1_15, .int x5_19, .int x3_17, .int (x4_18 + (1 : Int32)), UU]) (by refine ⟨Or.inr rfl, Or.inr rfl, Or.inr rfl, Or.inr rfl, Or.inr rfl, Or.inl rfl, trivial⟩) ?_
              exact ih x1_15 x5_19 x3_17 (x4_18 + (1 : Int32)) _ _ _ hs
            · rw [if_neg h21] at hs
              refine Rc.goL mt_1276 2 (f2 := (if x5_19 < x2_16 then 95 else 100, [.ref 280, .int x1_15, .int x2_16, .int x3_17, .int x4_18, .int x5_19], [], gm M20)) (b := true) rfl rfl ?_
              rw [if_neg h21]
              refine Rc.goL mt_1276 0 (f2 := (101, [.ref 280, .int x1_15, .int x2_16, .int x3_17, .int x4_18, .int x5_19], [.int x2_16], gm M20)) (b := true) rfl rfl ?_
              refine Rc.goL mt_1276 0 (f2 := (102, [.ref 280, .int x1_15, .int x2_16, .int x3_17, .int x4_18, .int x5_19], [], gm M20)) (b := true) rfl rfl ?_
              refine Rc.goL mt_1276 1 (f2 := (34, [.ref 280, .int x1_15, .int x2_16, .int x3_17, .int (x4_18 + (1 : Int32)), .int x5_19], [], gm M20)) (b := true) rfl rfl ?_
              refine Rc.less (ls2 := [.ref 280, .int x1_15, .int x2_16, .int x3_17, .int (x4_18 + (1 : Int32)), UU]) (by refine ⟨Or.inr rfl, Or.inr rfl, Or.inr rfl, Or.inr rfl, Or.inr rfl, Or.inl rfl, trivial⟩) ?_
              exact ih x1_15 x2_16 x3_17 (x4_18 + (1 : Int32)) _ _ _ hs
          by_cases h24 : x2_10 < x5_13
          · rw [if_pos h24] at hs
            refine Rc.goL mt_1276 2 (f2 := (if x2_10 < x5_13 then 89 else 79, [.ref 280, .int x1_9, .int x2_10, .int x3_11, .int x4_12, .int x5_13], [], gm M14)) (b := true) rfl rfl ?_
            rw [if_pos h24]
            refine Rc.less (ls2 := [.ref 280, .int x1_9, .int x2_10, .int x3_11, .int x4_12, .int x5_13]) (by refine ⟨Or.inr rfl, Or.inr rfl, Or.inr rfl, Or.inr rfl, Or.inr rfl, Or.inr rfl, trivial⟩) ?_
            exact Hj22 x1_9 x2_10 x3_11 x4_12 x5_13 _ _ _ hs
          · rw [if_neg h24] at hs
            refine Rc.goL mt_1276 2 (f2 := (if x2_10 < x5_13 then 89 else 79, [.ref 280, .int x1_9, .int x2_10, .int x3_11, .int x4_12, .int x5_13], [], gm M14)) (b := true) rfl rfl ?_
            rw [if_neg h24]
            obtain ⟨hb23, hs⟩ := ck_some hs
            refine Rc.goL mt_1276 6 (f2 := (89, [.ref 280, .int x1_9, .int x2_10, .int (x3_11 ||| (M14.1 331 (Int32.toNatClampNeg x4_12))), .int x4_12, .int x5_13], [], gm M14)) (b := (ib 40 x4_12 && true)) rfl hb23 ?_
            refine Rc.less (ls2 := [.ref 280, .int x1_9, .int x2_10, .int (x3_11 ||| (M14.1 331 (Int32.toNatClampNeg x4_12))), .int x4_12, .int x5_13]) (by refine ⟨Or.inr rfl, Or.inr rfl, Or.inr rfl, Or.inr rfl, Or.inr rfl, Or.inr rfl, trivial⟩) ?_
            exact Hj22 x1_9 x2_10 (x3_11 ||| (M14.1 331 (Int32.toNatClampNeg x4_12))) x4_12 x5_13 _ _ _ hs
        by_cases h26 : r6 < x2
        · rw [if_pos h26] at hs
          refine Rc.goL mt_1276 3 (f2 := (if r6 < x2 then 71 else 73, [.ref 280, .int x1, .int x2, .int x3, .int x4, .int r6], [], gm M7)) (b := true) rfl rfl ?_
          rw [if_pos h26]
          refine Rc.goL mt_1276 1 (f2 := (73, [.ref 280, .int x1, .int x2, .int (0 : Int32), .int x4, .int r6], [], gm M7)) (b := true) rfl rfl ?_
          refine Rc.less (ls2 := [.ref 280, .int x1, .int x2, .int (0 : Int32), .int x4, .int r6]) (by refine ⟨Or.inr rfl, Or.inr rfl, Or.inr rfl, Or.inr rfl, Or.inr rfl, Or.inr rfl, trivial⟩) ?_
          exact Hj25 x1 x2 (0 : Int32) x4 r6 _ _ _ hs
        · rw [if_neg h26] at hs
          refine Rc.goL mt_1276 3 (f2 := (if r6 < x2 then 71 else 73, [.ref 280, .int x1, .int x2, .int x3, .int x4, .int r6], [], gm M7)) (b := true) rfl rfl ?_
          rw [if_neg h26]
          refine Rc.less (ls2 := [.ref 280, .int x1, .int x2, .int x3, .int x4, .int r6]) (by refine ⟨Or.inr rfl, Or.inr rfl, Or.inr rfl, Or.inr rfl, Or.inr rfl, Or.inr rfl, trivial⟩) ?_
          exact Hj25 x1 x2 x3 x4 r6 _ _ _ hs
    · rw [if_neg h28] at hs
      refine Rc.goL mt_1276 3 (f2 := (if x4 < (M.1 280 80) then 43 else 108, [.ref 280, .int x1, .int x2, .int x3, .int x4, UU], [], gm M)) (b := true) rfl rfl ?_
      rw [if_neg h28]
      refine Rc.goL mt_1276 0 (f2 := (109, [.ref 280, .int x1, .int x2, .int x3, .int x4, UU], [.int x3], gm M)) (b := true) rfl rfl ?_
      obtain ⟨e1, e2⟩ := some_p hs; subst e1; subst e2
      exact Rc.ret (v := some (.int x3)) rfl rfl
set_option maxRecDepth 20000 in
theorem qmd_is_ok (d : Nat) (hd : 2 ≤ d) {x1 : Int32} {M : SM} {r : Int32} {Mz : SM} (hs : qmd_is x1 M = some (r, Mz)) : Ex d 1276 [.ref 280, .int x1] (gm M) (some (.int r), gm Mz) := by
  obtain ⟨d, rfl⟩ : ∃ d0, d = d0 + 1 := ⟨d - 1, by omega⟩
  refine Ex.of okm_1276 (by omega) (Nat.le_of_ble_eq_true rfl) ?_
  show Rc (d + 1) 1276 (0, [.ref 280, .int x1, UU, UU, UU, UU], [], gm M) _
  unfold qmd_is at hs
  refine Rc.goL mt_1276 1 (f2 := (2, [.ref 280, .int x1, UU, UU, UU, UU], [.int x1, .ref 280], gm M)) (b := true) rfl rfl ?_
  obtain ⟨r1, M2, he3, hs⟩ := ob_some hs
  refine Rc.callV (i := 456) (mid' := 1273) (av := [.int x1]) (rest := []) (v := some (.int r1)) (M1 := gm M2) (a := 280) rfl rfl rfl cw_1273 rfl (Nat.le_of_ble_eq_true rfl) rfl (Nat.le_of_ble_eq_true rfl) (qmd_isLot_ok _ (by omega) he3) ?_
  by_cases h31 : r1 = 0
  · rw [if_pos h31] at hs
    refine Rc.goL mt_1276 0 (f2 := (if r1 = 0 then 8 else 10, [.ref 280, .int x1, UU, UU, UU, UU], [], gm M2)) (b := true) rfl rfl ?_
    rw [if_pos h31]
    refine Rc.goL mt_1276 0 (f2 := (9, [.ref 280, .int x1, UU, UU, UU, UU], [.int (-1 : Int32)], gm M2)) (b := true) rfl rfl ?_
    obtain ⟨e1, e2⟩ := some_p hs; subst e1; subst e2
    exact Rc.ret (v := some (.int (-1 : Int32))) rfl rfl
  · rw [if_neg h31] at hs
    refine Rc.goL mt_1276 0 (f2 := (if r1 = 0 then 8 else 10, [.ref 280, .int x1, UU, UU, UU, UU], [], gm M2)) (b := true) rfl rfl ?_
    rw [if_neg h31]
    obtain ⟨hb4, hs⟩ := ck_some hs
    by_cases h30 : (M2.1 331 (Int32.toNatClampNeg x1)) = 0
    · rw [if_pos h30] at hs
      refine Rc.goL mt_1276 4 (f2 := (if (M2.1 331 (Int32.toNatClampNeg x1)) = 0 then 26 else 19, [.ref 280, .int x1, UU, UU, UU, UU], [], gm M2)) (b := (ib 40 x1 && true)) rfl hb4 ?_
      rw [if_pos h30]
      refine Rc.goL mt_1276 5 (f2 := (34, [.ref 280, .int x1, .int (9 : Int32), .int (0 : Int32), .int (0 : Int32), UU], [], gm M2)) (b := true) rfl rfl ?_
      refine Rc.less (ls2 := [.ref 280, .int x1, .int (9 : Int32), .int (0 : Int32), .int (0 : Int32), UU]) (by refine ⟨Or.inr rfl, Or.inr rfl, Or.inr rfl, Or.inr rfl, Or.inr rfl, Or.inl rfl, trivial⟩) ?_
      exact qmd_is_L34_ok d hd _ x1 (9 : Int32) (0 : Int32) (0 : Int32) _ _ _ hs
    · rw [if_neg h30] at hs
      refine Rc.goL mt_1276 4 (f2 := (if (M2.1 331 (Int32.toNatClampNeg x1)) = 0 then 26 else 19, [.ref 280, .int x1, UU, UU, UU, UU], [], gm M2)) (b := (ib 40 x1 && true)) rfl hb4 ?_
      rw [if_neg h30]
      obtain ⟨hb29, hs⟩ := ck_some hs
      refine Rc.goL mt_1276 3 (f2 := (25, [.ref 280, .int x1, UU, UU, UU, UU], [.int (M2.1 331 (Int32.toNatClampNeg x1))], gm M2)) (b := (ib 40 x1 && true)) rfl hb29 ?_
      obtain ⟨e1, e2⟩ := some_p hs; subst e1; subst e2
      exact Rc.ret (v := some (.int (M2.1 331 (Int32.toNatClampNeg x1)))) rfl rfl
def qmd_isOne (x1 : Int32) (M : SM) : Option (Int32 × SM) :=
  if x1 < (6 : Int32) then
  (ob (qmd_isMaster x1 M) (fun r1 M2 =>
    ck (decide (r1 = 0) || decide (r1 = 1)) (some (r1, M2)))) else
  (ob (qmd_isKnitter (x1 - (6 : Int32)) M) (fun r5 M6 =>
    ck (decide (r5 = 0) || decide (r5 = 1)) (some (r5, M6))))
theorem mt_1277 : MT 1277 K_1277 LN_12 := ⟨rfl, rfl, by decide +kernel⟩
theorem okm_1277 : OKm 1277 := ⟨⟨vE_1277, okL_12, by decide +kernel⟩, by decide +kernel, by decide +kernel, by decide +kernel⟩
set_option maxRecDepth 20000 in
theorem qmd_isOne_ok (d : Nat) (hd : 2 ≤ d) {x1 : Int32} {M : SM} {r : Int32} {Mz : SM} (hs : qmd_isOne x1 M = some (r, Mz)) : Ex d 1277 [.ref 280, .int x1] (gm M) (some (.int r), gm Mz) := by
  obtain ⟨d, rfl⟩ : ∃ d0, d = d0 + 1 := ⟨d - 1, by omega⟩
  refine Ex.of okm_1277 (by omega) (Nat.le_of_ble_eq_true rfl) ?_
  show Rc (d + 1) 1277 (0, [.ref 280, .int x1], [], gm M) _
  unfold qmd_isOne at hs
  by_cases h9 : x1 < (6 : Int32)
  · rw [if_pos h9] at hs
    refine Rc.goL mt_1277 2 (f2 := (if x1 < (6 : Int32) then 6 else 14, [.ref 280, .int x1], [], gm M)) (b := true) rfl rfl ?_
    rw [if_pos h9]
    refine Rc.goL mt_1277 1 (f2 := (8, [.ref 280, .int x1], [.int x1, .ref 280], gm M)) (b := true) rfl rfl ?_
    obtain ⟨r1, M2, he3, hs⟩ := ob_some hs
    refine Rc.callV (i := 191) (mid' := 1202) (av := [.int x1]) (rest := []) (v := some (.int r1)) (M1 := gm M2) (a := 280) rfl rfl rfl cw_1202 rfl (Nat.le_of_ble_eq_true rfl) rfl (Nat.le_of_ble_eq_true rfl) (qmd_isMaster_ok _ (by omega) he3) ?_
    refine Rc.goL mt_1277 0 (f2 := (22, [.ref 280, .int x1], [.int r1], gm M2)) (b := true) rfl rfl ?_
    obtain ⟨hc4, hs⟩ := ck_some hs
    obtain ⟨e1, e2⟩ := some_p hs; subst e1; subst e2
    exact Rc.ret (v := some (.int r1)) rfl hc4
  · rw [if_neg h9] at hs
    refine Rc.goL mt_1277 2 (f2 := (if x1 < (6 : Int32) then 6 else 14, [.ref 280, .int x1], [], gm M)) (b := true) rfl rfl ?_
    rw [if_neg h9]
    refine Rc.goL mt_1277 3 (f2 := (19, [.ref 280, .int x1], [.int (x1 - (6 : Int32)), .ref 280], gm M)) (b := true) rfl rfl ?_
    obtain ⟨r5, M6, he7, hs⟩ := ob_some hs
    refine Rc.callV (i := 202) (mid' := 1203) (av := [.int (x1 - (6 : Int32))]) (rest := []) (v := some (.int r5)) (M1 := gm M6) (a := 280) rfl rfl rfl cw_1203 rfl (Nat.le_of_ble_eq_true rfl) rfl (Nat.le_of_ble_eq_true rfl) (qmd_isKnitter_ok _ (by omega) he7) ?_
    obtain ⟨hc8, hs⟩ := ck_some hs
    obtain ⟨e1, e2⟩ := some_p hs; subst e1; subst e2
    exact Rc.ret (v := some (.int r5)) rfl hc8
def qmd_owes (x1 : Int32) (x2 : Int32) (x3 : Int32) (M : SM) : Option (Int32 × SM) :=
  ob (qmd_isOne x1 M) (fun r1 M2 =>
  if r1 = 0 then
  (some ((0 : Int32), M2)) else
  (ob (qmd_isOne x2 M2) (fun r4 M5 =>
    if r4 = 0 then
    (some ((0 : Int32), M5)) else
    (if x1 = x2 then
      (some ((0 : Int32), M5)) else
      (ob (qmd_in x3 (1 : Int32) (1000000 : Int32) M5) (fun r7 M8 =>
        if r7 = 0 then
        (some ((0 : Int32), M8)) else
        (ck (ib 18 x1 && (ib 18 x1 && (ib 18 x2 && (ib 18 x2 && true)))) (
          some ((1 : Int32), (wI (wL (wL M8 332 (Int32.toNatClampNeg x1) ((M8.2 332 (Int32.toNatClampNeg x1)) - (Int32.toInt64 x3))) 332 (Int32.toNatClampNeg x2) (((wL M8 332 (Int32.toNatClampNeg x1) ((M8.2 332 (Int32.toNatClampNeg x1)) - (Int32.toInt64 x3))).2 332 (Int32.toNatClampNeg x2)) + (Int32.toInt64 x3))) 280 83 (1 : Int32)))))))))))
theorem mt_1278 : MT 1278 K_1278 LN_12 := ⟨rfl, rfl, by decide +kernel⟩
theorem okm_1278 : OKm 1278 := ⟨⟨vE_1278, okL_12, by decide +kernel⟩, by decide +kernel, by decide +kernel, by decide +kernel⟩
set_option maxRecDepth 20000 in
theorem qmd_owes_ok (d : Nat) (hd : 3 ≤ d) {x1 : Int32} {x2 : Int32} {x3 : Int32} {M : SM} {r : Int32} {Mz : SM} (hs : qmd_owes x1 x2 x3 M = some (r, Mz)) : Ex d 1278 [.ref 280, .int x1, .int x2, .int x3] (gm M) (some (.int r), gm Mz) := by
  obtain ⟨d, rfl⟩ : ∃ d0, d = d0 + 1 := ⟨d - 1, by omega⟩
  refine Ex.of okm_1278 (by omega) (Nat.le_of_ble_eq_true rfl) ?_
  show Rc (d + 1) 1278 (0, [.ref 280, .int x1, .int x2, .int x3], [], gm M) _
  unfold qmd_owes at hs
  refine Rc.goL mt_1278 1 (f2 := (2, [.ref 280, .int x1, .int x2, .int x3], [.int x1, .ref 280], gm M)) (b := true) rfl rfl ?_
  obtain ⟨r1, M2, he3, hs⟩ := ob_some hs
  refine Rc.callV (i := 462) (mid' := 1277) (av := [.int x1]) (rest := []) (v := some (.int r1)) (M1 := gm M2) (a := 280) rfl rfl rfl cw_1277 rfl (Nat.le_of_ble_eq_true rfl) rfl (Nat.le_of_ble_eq_true rfl) (qmd_isOne_ok _ (by omega) he3) ?_
  by_cases h14 : r1 = 0
  · rw [if_pos h14] at hs
    refine Rc.goL mt_1278 0 (f2 := (if r1 = 0 then 32 else 8, [.ref 280, .int x1, .int x2, .int x3], [], gm M2)) (b := true) rfl rfl ?_
    rw [if_pos h14]
    refine Rc.goL mt_1278 0 (f2 := (33, [.ref 280, .int x1, .int x2, .int x3], [.int (0 : Int32)], gm M2)) (b := true) rfl rfl ?_
    obtain ⟨e1, e2⟩ := some_p hs; subst e1; subst e2
    exact Rc.ret (v := some (.int (0 : Int32))) rfl rfl
  · rw [if_neg h14] at hs
    refine Rc.goL mt_1278 0 (f2 := (if r1 = 0 then 32 else 8, [.ref 280, .int x1, .int x2, .int x3], [], gm M2)) (b := true) rfl rfl ?_
    rw [if_neg h14]
    refine Rc.goL mt_1278 1 (f2 := (10, [.ref 280, .int x1, .int x2, .int x3], [.int x2, .ref 280], gm M2)) (b := true) rfl rfl ?_
    obtain ⟨r4, M5, he6, hs⟩ := ob_some hs
    refine Rc.callV (i := 462) (mid' := 1277) (av := [.int x2]) (rest := []) (v := some (.int r4)) (M1 := gm M5) (a := 280) rfl rfl rfl cw_1277 rfl (Nat.le_of_ble_eq_true rfl) rfl (Nat.le_of_ble_eq_true rfl) (qmd_isOne_ok _ (by omega) he6) ?_
    by_cases h13 : r4 = 0
    · rw [if_pos h13] at hs
      refine Rc.goL mt_1278 0 (f2 := (if r4 = 0 then 32 else 16, [.ref 280, .int x1, .int x2, .int x3], [], gm M5)) (b := true) rfl rfl ?_
      rw [if_pos h13]
      refine Rc.goL mt_1278 0 (f2 := (33, [.ref 280, .int x1, .int x2, .int x3], [.int (0 : Int32)], gm M5)) (b := true) rfl rfl ?_
      obtain ⟨e1, e2⟩ := some_p hs; subst e1; subst e2
      exact Rc.ret (v := some (.int (0 : Int32))) rfl rfl
    · rw [if_neg h13] at hs
      refine Rc.goL mt_1278 0 (f2 := (if r4 = 0 then 32 else 16, [.ref 280, .int x1, .int x2, .int x3], [], gm M5)) (b := true) rfl rfl ?_
      rw [if_neg h13]
      by_cases h12 : x1 = x2
      · rw [if_pos h12] at hs
        refine Rc.goL mt_1278 2 (f2 := (if x1 = x2 then 32 else 21, [.ref 280, .int x1, .int x2, .int x3], [], gm M5)) (b := true) rfl rfl ?_
        rw [if_pos h12]
        refine Rc.goL mt_1278 0 (f2 := (33, [.ref 280, .int x1, .int x2, .int x3], [.int (0 : Int32)], gm M5)) (b := true) rfl rfl ?_
        obtain ⟨e1, e2⟩ := some_p hs; subst e1; subst e2
        exact Rc.ret (v := some (.int (0 : Int32))) rfl rfl
      · rw [if_neg h12] at hs
        refine Rc.goL mt_1278 2 (f2 := (if x1 = x2 then 32 else 21, [.ref 280, .int x1, .int x2, .int x3], [], gm M5)) (b := true) rfl rfl ?_
        rw [if_neg h12]
        refine Rc.goL mt_1278 2 (f2 := (26, [.ref 280, .int x1, .int x2, .int x3], [.int (1000000 : Int32), .int (1 : Int32), .int x3], gm M5)) (b := true) rfl rfl ?_
        obtain ⟨r7, M8, he9, hs⟩ := ob_some hs
        refine Rc.callS (i := 195) (mid' := 1201) (av := [.int x3, .int (1 : Int32), .int (1000000 : Int32)]) (rest := []) (v := some (.int r7)) (M1 := gm M8) rfl (Or.inl rfl) rfl cw_1201 rfl (Nat.le_of_ble_eq_true rfl) (qmd_in_ok _ (by omega) he9) ?_
        by_cases h11 : r7 = 0
        · rw [if_pos h11] at hs
          refine Rc.goL mt_1278 0 (f2 := (if r7 = 0 then 32 else 34, [.ref 280, .int x1, .int x2, .int x3], [], gm M8)) (b := true) rfl rfl ?_
          rw [if_pos h11]
          refine Rc.goL mt_1278 0 (f2 := (33, [.ref 280, .int x1, .int x2, .int x3], [.int (0 : Int32)], gm M8)) (b := true) rfl rfl ?_
          obtain ⟨e1, e2⟩ := some_p hs; subst e1; subst e2
          exact Rc.ret (v := some (.int (0 : Int32))) rfl rfl
        · rw [if_neg h11] at hs
          refine Rc.goL mt_1278 0 (f2 := (if r7 = 0 then 32 else 34, [.ref 280, .int x1, .int x2, .int x3], [], gm M8)) (b := true) rfl rfl ?_
          rw [if_neg h11]
          obtain ⟨hb10, hs⟩ := ck_some hs
          obtain ⟨hb10_0, hb10⟩ := and_t hb10
          obtain ⟨hb10_1, hb10⟩ := and_t hb10
          obtain ⟨hb10_2, hb10⟩ := and_t hb10
          obtain ⟨hb10_3, hb10⟩ := and_t hb10
          refine Rc.goL mt_1278 6 (f2 := (45, [.ref 280, .int x1, .int x2, .int x3], [.long (M8.2 332 (Int32.toNatClampNeg x1)), .int x1, .ref 332], gm M8)) (b := (ib 18 x1 && true)) rfl (and_i hb10_0 rfl) ?_
          refine Rc.goL mt_1278 3 (f2 := (49, [.ref 280, .int x1, .int x2, .int x3], [], gm (wL M8 332 (Int32.toNatClampNeg x1) ((M8.2 332 (Int32.toNatClampNeg x1)) - (Int32.toInt64 x3))))) (b := (ib 18 x1 && true)) rfl (and_i hb10_1 rfl) ?_
          refine Rc.goL mt_1278 6 (f2 := (60, [.ref 280, .int x1, .int x2, .int x3], [.long ((wL M8 332 (Int32.toNatClampNeg x1) ((M8.2 332 (Int32.toNatClampNeg x1)) - (Int32.toInt64 x3))).2 332 (Int32.toNatClampNeg x2)), .int x2, .ref 332], gm (wL M8 332 (Int32.toNatClampNeg x1) ((M8.2 332 (Int32.toNatClampNeg x1)) - (Int32.toInt64 x3))))) (b := (ib 18 x2 && true)) rfl (and_i hb10_2 rfl) ?_
          refine Rc.goL mt_1278 3 (f2 := (64, [.ref 280, .int x1, .int x2, .int x3], [], gm (wL (wL M8 332 (Int32.toNatClampNeg x1) ((M8.2 332 (Int32.toNatClampNeg x1)) - (Int32.toInt64 x3))) 332 (Int32.toNatClampNeg x2) (((wL M8 332 (Int32.toNatClampNeg x1) ((M8.2 332 (Int32.toNatClampNeg x1)) - (Int32.toInt64 x3))).2 332 (Int32.toNatClampNeg x2)) + (Int32.toInt64 x3))))) (b := (ib 18 x2 && true)) rfl (and_i hb10_3 rfl) ?_
          refine Rc.goL mt_1278 2 (f2 := (69, [.ref 280, .int x1, .int x2, .int x3], [], gm (wI (wL (wL M8 332 (Int32.toNatClampNeg x1) ((M8.2 332 (Int32.toNatClampNeg x1)) - (Int32.toInt64 x3))) 332 (Int32.toNatClampNeg x2) (((wL M8 332 (Int32.toNatClampNeg x1) ((M8.2 332 (Int32.toNatClampNeg x1)) - (Int32.toInt64 x3))).2 332 (Int32.toNatClampNeg x2)) + (Int32.toInt64 x3))) 280 83 (1 : Int32)))) (b := true) rfl rfl ?_
          refine Rc.goL mt_1278 0 (f2 := (70, [.ref 280, .int x1, .int x2, .int x3], [.int (1 : Int32)], gm (wI (wL (wL M8 332 (Int32.toNatClampNeg x1) ((M8.2 332 (Int32.toNatClampNeg x1)) - (Int32.toInt64 x3))) 332 (Int32.toNatClampNeg x2) (((wL M8 332 (Int32.toNatClampNeg x1) ((M8.2 332 (Int32.toNatClampNeg x1)) - (Int32.toInt64 x3))).2 332 (Int32.toNatClampNeg x2)) + (Int32.toInt64 x3))) 280 83 (1 : Int32)))) (b := true) rfl rfl ?_
          obtain ⟨e1, e2⟩ := some_p hs; subst e1; subst e2
          exact Rc.ret (v := some (.int (1 : Int32))) rfl rfl
def qmd_net (x1 : Int32) (M : SM) : Option (Int64 × SM) :=
  ob (qmd_isOne x1 M) (fun r1 M2 =>
  if r1 = 0 then
  (some ((0 : Int64), M2)) else
  (ck (ib 18 x1 && true) (
    some ((M2.2 332 (Int32.toNatClampNeg x1)), M2))))
theorem mt_1279 : MT 1279 K_1279 LN_12 := ⟨rfl, rfl, by decide +kernel⟩
theorem okm_1279 : OKm 1279 := ⟨⟨vE_1279, okL_12, by decide +kernel⟩, by decide +kernel, by decide +kernel, by decide +kernel⟩
set_option maxRecDepth 20000 in
theorem qmd_net_ok (d : Nat) (hd : 3 ≤ d) {x1 : Int32} {M : SM} {r : Int64} {Mz : SM} (hs : qmd_net x1 M = some (r, Mz)) : Ex d 1279 [.ref 280, .int x1] (gm M) (some (.long r), gm Mz) := by
  obtain ⟨d, rfl⟩ : ∃ d0, d = d0 + 1 := ⟨d - 1, by omega⟩
  refine Ex.of okm_1279 (by omega) (Nat.le_of_ble_eq_true rfl) ?_
  show Rc (d + 1) 1279 (0, [.ref 280, .int x1], [], gm M) _
  unfold qmd_net at hs
  refine Rc.goL mt_1279 1 (f2 := (2, [.ref 280, .int x1], [.int x1, .ref 280], gm M)) (b := true) rfl rfl ?_
  obtain ⟨r1, M2, he3, hs⟩ := ob_some hs
  refine Rc.callV (i := 462) (mid' := 1277) (av := [.int x1]) (rest := []) (v := some (.int r1)) (M1 := gm M2) (a := 280) rfl rfl rfl cw_1277 rfl (Nat.le_of_ble_eq_true rfl) rfl (Nat.le_of_ble_eq_true rfl) (qmd_isOne_ok _ (by omega) he3) ?_
  by_cases h5 : r1 = 0
  · rw [if_pos h5] at hs
    refine Rc.goL mt_1279 0 (f2 := (if r1 = 0 then 17 else 8, [.ref 280, .int x1], [], gm M2)) (b := true) rfl rfl ?_
    rw [if_pos h5]
    refine Rc.goL mt_1279 0 (f2 := (18, [.ref 280, .int x1], [.long (0 : Int64)], gm M2)) (b := true) rfl rfl ?_
    obtain ⟨e1, e2⟩ := some_p hs; subst e1; subst e2
    exact Rc.ret (v := some (.long (0 : Int64))) rfl rfl
  · rw [if_neg h5] at hs
    refine Rc.goL mt_1279 0 (f2 := (if r1 = 0 then 17 else 8, [.ref 280, .int x1], [], gm M2)) (b := true) rfl rfl ?_
    rw [if_neg h5]
    obtain ⟨hb4, hs⟩ := ck_some hs
    refine Rc.goL mt_1279 4 (f2 := (18, [.ref 280, .int x1], [.long (M2.2 332 (Int32.toNatClampNeg x1))], gm M2)) (b := (ib 18 x1 && true)) rfl hb4 ?_
    obtain ⟨e1, e2⟩ := some_p hs; subst e1; subst e2
    exact Rc.ret (v := some (.long (M2.2 332 (Int32.toNatClampNeg x1)))) rfl rfl
def qmd_payments_L34 (k70 : Int32 → Int32 → SM → Option (Int32 × SM)) : Nat → Int32 → Int32 → Int32 → SM → Option (Int32 × SM)
  | 0, _, _, _, _ => none
  | n + 1, x1, x2, x3, M =>
    if x3 < ((1 : Int32) <<< (x1 &&& 31)) then
    (ck (ib 4096 x3 && (ib 18 x2 && (ib 4096 (((1 : Int32) <<< (x1 &&& 31)) ||| x3) && true))) (
      qmd_payments_L34 k70 n x1 x2 (x3 + (1 : Int32)) (wL M 333 (Int32.toNatClampNeg (((1 : Int32) <<< (x1 &&& 31)) ||| x3)) ((M.2 333 (Int32.toNatClampNeg x3)) + (M.2 332 (Int32.toNatClampNeg x2)))))) else
    (k70 x1 x2 M)
def qmd_payments_L4 (k80 : Int32 → SM → Option (Int32 × SM)) : Nat → Int32 → Int32 → SM → Option (Int32 × SM)
  | 0, _, _, _ => none
  | n + 1, x1, x2, M =>
    if x2 < (18 : Int32) then
    (ck (ib 18 x2 && true) (
      if (lg_cmp (M.2 332 (Int32.toNatClampNeg x2)) (0 : Int64)) = 0 then
      (qmd_payments_L4 k80 n x1 (x2 + (1 : Int32)) M) else
      (if x1 = (12 : Int32) then
        (some ((-1 : Int32), M)) else
        (qmd_payments_L34 (fun y1_4 y2_5 M6 =>
          qmd_payments_L4 k80 n (y1_4 + (1 : Int32)) (y2_5 + (1 : Int32)) M6) FU x1 x2 (0 : Int32) M)))) else
    (k80 x1 M)
def qmd_payments_L94 (k143 : Int32 → Int32 → Int32 → SM → Option (Int32 × SM)) : Nat → Int32 → Int32 → Int32 → Int32 → SM → Option (Int32 × SM)
  | 0, _, _, _, _, _ => none
  | n + 1, x1, x2, x3, x4, M =>
    if x4 < x1 then
    (if ((x2 >>> (x4 &&& 31)) &&& (1 : Int32)) = (1 : Int32) then
      (ck (ib 4096 (x2 ^^^ ((1 : Int32) <<< (x4 &&& 31))) && true) (
        if x3 < (M.1 334 (Int32.toNatClampNeg (x2 ^^^ ((1 : Int32) <<< (x4 &&& 31))))) then
        (ck (ib 4096 (x2 ^^^ ((1 : Int32) <<< (x4 &&& 31))) && true) (
          lt (M.1 334 (Int32.toNatClampNeg (x2 ^^^ ((1 : Int32) <<< (x4 &&& 31))))) (fun (z14 : Int32) =>
          qmd_payments_L94 k143 n x1 x2 z14 (x4 + (1 : Int32)) M))) else
        (qmd_payments_L94 k143 n x1 x2 x3 (x4 + (1 : Int32)) M))) else
      (qmd_payments_L94 k143 n x1 x2 x3 (x4 + (1 : Int32)) M)) else
    (k143 x1 x2 x3 M)
def qmd_payments_L82 : Nat → Int32 → Int32 → SM → Option (Int32 × SM)
  | 0, _, _, _ => none
  | n + 1, x1, x2, M =>
    if x2 < ((1 : Int32) <<< (x1 &&& 31)) then
    (qmd_payments_L94 (fun y1_18 y2_19 y3_20 M21 =>
      ck (ib 4096 y2_19 && true) (
        if (lg_cmp (M21.2 333 (Int32.toNatClampNeg y2_19)) (0 : Int64)) = 0 then
        (ck (ib 4096 y2_19 && true) (
          qmd_payments_L82 n y1_18 (y2_19 + (1 : Int32)) (wI M21 334 (Int32.toNatClampNeg y2_19) (y3_20 + (1 : Int32))))) else
        (ck (ib 4096 y2_19 && true) (
          qmd_payments_L82 n y1_18 (y2_19 + (1 : Int32)) (wI M21 334 (Int32.toNatClampNeg y2_19) (y3_20 + (0 : Int32))))))) FU x1 x2 (0 : Int32) (0 : Int32) M) else
    (ck (ib 4096 (((1 : Int32) <<< (x1 &&& 31)) - (1 : Int32)) && true) (
      some ((x1 - (M.1 334 (Int32.toNatClampNeg (((1 : Int32) <<< (x1 &&& 31)) - (1 : Int32))))), M)))
def qmd_payments (M : SM) : Option (Int32 × SM) :=
  qmd_payments_L4 (fun y1_10 M11 =>
  qmd_payments_L82 FU y1_10 (1 : Int32) M11) FU (0 : Int32) (0 : Int32) M
theorem mt_1280 : MT 1280 K_1280 LN_12 := ⟨rfl, rfl, by decide +kernel⟩
theorem okm_1280 : OKm 1280 := ⟨⟨vE_1280, okL_12, by decide +kernel⟩, by decide +kernel, by decide +kernel, by decide +kernel⟩
set_option maxRecDepth 20000 in
theorem qmd_payments_L34_ok (d : Nat) (hd : 1 ≤ d + 1) (k70 : Int32 → Int32 → SM → Option (Int32 × SM)) (hk70 : ∀ (y1 : Int32) (y2 : Int32) (M : SM) (r : Int32) (Mz : SM), k70 y1 y2 M = some (r, Mz) → Rc (d + 1) 1280 (70, [.ref 280, .int y1, .int y2, UU, UU], [], gm M) (some (.int r), gm Mz)) : ∀ (n : Nat) (x1 : Int32) (x2 : Int32) (x3 : Int32) (M : SM) (r : Int32) (Mz : SM), qmd_payments_L34 k70 n x1 x2 x3 M = some (r, Mz) → Rc (d + 1) 1280 (34, [.ref 280, .int x1, .int x2, .int x3, UU], [], gm M) (some (.int r), gm Mz) := by
  intro n
  induction n with
  | zero => intro x1 x2 x3 M r Mz hs; cases hs
  | succ n ih =>
    intro x1 x2 x3 M r Mz hs
    rw [qmd_payments_L34] at hs
    by_cases h3 : x3 < ((1 : Int32) <<< (x1 &&& 31))
    · rw [if_pos h3] at hs
      refine Rc.goL mt_1280 4 (f2 := (if x3 < ((1 : Int32) <<< (x1 &&& 31)) then 41 else 70, [.ref 280, .int x1, .int x2, .int x3, UU], [], gm M)) (b := true) rfl rfl ?_
      rw [if_pos h3]
      obtain ⟨hb2, hs⟩ := ck_some hs
      obtain ⟨hb2_0, hb2⟩ := and_t hb2
      obtain ⟨hb2_1, hb2⟩ := and_t hb2
      obtain ⟨hb2_2, hb2⟩ := and_t hb2
      refine Rc.goL mt_1280 6 (f2 := (50, [.ref 280, .int x1, .int x2, .int x3, UU], [.int (((1 : Int32) <<< (x1 &&& 31)) ||| x3), .ref 333], gm M)) (b := true) rfl rfl ?_
      refine Rc.goL mt_1280 6 (f2 := (61, [.ref 280, .int x1, .int x2, .int x3, UU], [.int x2, .ref 332, .long (M.2 333 (Int32.toNatClampNeg x3)), .int (((1 : Int32) <<< (x1 &&& 31)) ||| x3), .ref 333], gm M)) (b := (ib 4096 x3 && true)) rfl (and_i hb2_0 rfl) ?_
      refine Rc.goL mt_1280 2 (f2 := (64, [.ref 280, .int x1, .int x2, .int x3, UU], [], gm (wL M 333 (Int32.toNatClampNeg (((1 : Int32) <<< (x1 &&& 31)) ||| x3)) ((M.2 333 (Int32.toNatClampNeg x3)) + (M.2 332 (Int32.toNatClampNeg x2)))))) (b := (ib 18 x2 && (ib 4096 (((1 : Int32) <<< (x1 &&& 31)) ||| x3) && true))) rfl (and_i hb2_1 (and_i hb2_2 rfl)) ?_
      refine Rc.goL mt_1280 1 (f2 := (34, [.ref 280, .int x1, .int x2, .int (x3 + (1 : Int32)), UU], [], gm (wL M 333 (Int32.toNatClampNeg (((1 : Int32) <<< (x1 &&& 31)) ||| x3)) ((M.2 333 (Int32.toNatClampNeg x3)) + (M.2 332 (Int32.toNatClampNeg x2)))))) (b := true) rfl rfl ?_
      refine Rc.less (ls2 := [.ref 280, .int x1, .int x2, .int (x3 + (1 : Int32)), UU]) (by refine ⟨Or.inr rfl, Or.inr rfl, Or.inr rfl, Or.inr rfl, Or.inl rfl, trivial⟩) ?_
      exact ih x1 x2 (x3 + (1 : Int32)) _ _ _ hs
    · rw [if_neg h3] at hs
      refine Rc.goL mt_1280 4 (f2 := (if x3 < ((1 : Int32) <<< (x1 &&& 31)) then 41 else 70, [.ref 280, .int x1, .int x2, .int x3, UU], [], gm M)) (b := true) rfl rfl ?_
      rw [if_neg h3]
      refine Rc.less (ls2 := [.ref 280, .int x1, .int x2, UU, UU]) (by refine ⟨Or.inr rfl, Or.inr rfl, Or.inr rfl, Or.inl rfl, Or.inl rfl, trivial⟩) ?_
      exact hk70 x1 x2 _ _ _ hs
set_option maxRecDepth 20000 in
theorem qmd_payments_L4_ok (d : Nat) (hd : 1 ≤ d + 1) (k80 : Int32 → SM → Option (Int32 × SM)) (hk80 : ∀ (y1 : Int32) (M : SM) (r : Int32) (Mz : SM), k80 y1 M = some (r, Mz) → Rc (d + 1) 1280 (80, [.ref 280, .int y1, UU, UU, UU], [], gm M) (some (.int r), gm Mz)) : ∀ (n : Nat) (x1 : Int32) (x2 : Int32) (M : SM) (r : Int32) (Mz : SM), qmd_payments_L4 k80 n x1 x2 M = some (r, Mz) → Rc (d + 1) 1280 (4, [.ref 280, .int x1, .int x2, UU, UU], [], gm M) (some (.int r), gm Mz) := by
  intro n
  induction n with
  | zero => intro x1 x2 M r Mz hs; cases hs
  | succ n ih =>
    intro x1 x2 M r Mz hs
    rw [qmd_payments_L4] at hs
    by_cases h9 : x2 < (18 : Int32)
    · rw [if_pos h9] at hs
      refine Rc.goL mt_1280 2 (f2 := (if x2 < (18 : Int32) then 10 else 80, [.ref 280, .int x1, .int x2, UU, UU], [], gm M)) (b := true) rfl rfl ?_
      rw [if_pos h9]
      obtain ⟨hb1, hs⟩ := ck_some hs
      by_cases h8 : (lg_cmp (M.2 332 (Int32.toNatClampNeg x2)) (0 : Int64)) = 0
      · rw [if_pos h8] at hs
        refine Rc.goL mt_1280 6 (f2 := (if (lg_cmp (M.2 332 (Int32.toNatClampNeg x2)) (0 : Int64)) = 0 then 21 else 24, [.ref 280, .int x1, .int x2, UU, UU], [], gm M)) (b := (ib 18 x2 && true)) rfl hb1 ?_
        rw [if_pos h8]
        refine Rc.goL mt_1280 0 (f2 := (74, [.ref 280, .int x1, .int x2, UU, UU], [], gm M)) (b := true) rfl rfl ?_
        refine Rc.goL mt_1280 1 (f2 := (4, [.ref 280, .int x1, .int (x2 + (1 : Int32)), UU, UU], [], gm M)) (b := true) rfl rfl ?_
        refine Rc.less (ls2 := [.ref 280, .int x1, .int (x2 + (1 : Int32)), UU, UU]) (by refine ⟨Or.inr rfl, Or.inr rfl, Or.inr rfl, Or.inl rfl, Or.inl rfl, trivial⟩) ?_
        exact ih x1 (x2 + (1 : Int32)) _ _ _ hs
      · rw [if_neg h8] at hs
        refine Rc.goL mt_1280 6 (f2 := (if (lg_cmp (M.2 332 (Int32.toNatClampNeg x2)) (0 : Int64)) = 0 then 21 else 24, [.ref 280, .int x1, .int x2, UU, UU], [], gm M)) (b := (ib 18 x2 && true)) rfl hb1 ?_
        rw [if_neg h8]
        by_cases h7 : x1 = (12 : Int32)
        · rw [if_pos h7] at hs
          refine Rc.goL mt_1280 2 (f2 := (if x1 = (12 : Int32) then 30 else 32, [.ref 280, .int x1, .int x2, UU, UU], [], gm M)) (b := true) rfl rfl ?_
          rw [if_pos h7]
          refine Rc.goL mt_1280 0 (f2 := (31, [.ref 280, .int x1, .int x2, UU, UU], [.int (-1 : Int32)], gm M)) (b := true) rfl rfl ?_
          obtain ⟨e1, e2⟩ := some_p hs; subst e1; subst e2
          exact Rc.ret (v := some (.int (-1 : Int32))) rfl rfl
        · rw [if_neg h7] at hs
          refine Rc.goL mt_1280 2 (f2 := (if x1 = (12 : Int32) then 30 else 32, [.ref 280, .int x1, .int x2, UU, UU], [], gm M)) (b := true) rfl rfl ?_
          rw [if_neg h7]
          refine Rc.goL mt_1280 1 (f2 := (34, [.ref 280, .int x1, .int x2, .int (0 : Int32), UU], [], gm M)) (b := true) rfl rfl ?_
          refine Rc.less (ls2 := [.ref 280, .int x1, .int x2, .int (0 : Int32), UU]) (by refine ⟨Or.inr rfl, Or.inr rfl, Or.inr rfl, Or.inr rfl, Or.inl rfl, trivial⟩) ?_
          refine qmd_payments_L34_ok d hd _ (fun y1_4 y2_5 M6 r Mz hs => ?_) _ x1 x2 (0 : Int32) _ _ _ hs
          · refine Rc.goL mt_1280 3 (f2 := (74, [.ref 280, .int (y1_4 + (1 : Int32)), .int y2_5, UU, UU], [], gm M6)) (b := true) rfl rfl ?_
            refine Rc.goL mt_1280 1 (f2 := (4, [.ref 280, .int (y1_4 + (1 : Int32)), .int (y2_5 + (1 : Int32)), UU, UU], [], gm M6)) (b := true) rfl rfl ?_
            refine Rc.less (ls2 := [.ref 280, .int (y1_4 + (1 : Int32)), .int (y2_5 + (1 : Int32)), UU, UU]) (by refine ⟨Or.inr rfl, Or.inr rfl, Or.inr rfl, Or.inl rfl, Or.inl rfl, trivial⟩) ?_
            exact ih (y1_4 + (1 : Int32)) (y2_5 + (1 : Int32)) _ _ _ hs
    · rw [if_neg h9] at hs
      refine Rc.goL mt_1280 2 (f2 := (if x2 < (18 : Int32) then 10 else 80, [.ref 280, .int x1, .int x2, UU, UU], [], gm M)) (b := true) rfl rfl ?_
      rw [if_neg h9]
      refine Rc.less (ls2 := [.ref 280, .int x1, UU, UU, UU]) (by refine ⟨Or.inr rfl, Or.inr rfl, Or.inl rfl, Or.inl rfl, Or.inl rfl, trivial⟩) ?_
      exact hk80 x1 _ _ _ hs
set_option maxRecDepth 20000 in
theorem qmd_payments_L94_ok (d : Nat) (hd : 1 ≤ d + 1) (k143 : Int32 → Int32 → Int32 → SM → Option (Int32 × SM)) (hk143 : ∀ (y1 : Int32) (y2 : Int32) (y3 : Int32) (M : SM) (r : Int32) (Mz : SM), k143 y1 y2 y3 M = some (r, Mz) → Rc (d + 1) 1280 (143, [.ref 280, .int y1, .int y2, .int y3, UU], [], gm M) (some (.int r), gm Mz)) : ∀ (n : Nat) (x1 : Int32) (x2 : Int32) (x3 : Int32) (x4 : Int32) (M : SM) (r : Int32) (Mz : SM), qmd_payments_L94 k143 n x1 x2 x3 x4 M = some (r, Mz) → Rc (d + 1) 1280 (94, [.ref 280, .int x1, .int x2, .int x3, .int x4], [], gm M) (some (.int r), gm Mz) := by
  intro n
  induction n with
  | zero => intro x1 x2 x3 x4 M r Mz hs; cases hs
  | succ n ih =>
    intro x1 x2 x3 x4 M r Mz hs
    rw [qmd_payments_L94] at hs
    by_cases h17 : x4 < x1
    · rw [if_pos h17] at hs
      refine Rc.goL mt_1280 2 (f2 := (if x4 < x1 then 100 else 143, [.ref 280, .int x1, .int x2, .int x3, .int x4], [], gm M)) (b := true) rfl rfl ?_
      rw [if_pos h17]
      by_cases h16 : ((x2 >>> (x4 &&& 31)) &&& (1 : Int32)) = (1 : Int32)
      · rw [if_pos h16] at hs
        refine Rc.goL mt_1280 6 (f2 := (if ((x2 >>> (x4 &&& 31)) &&& (1 : Int32)) = (1 : Int32) then 110 else 137, [.ref 280, .int x1, .int x2, .int x3, .int x4], [], gm M)) (b := true) rfl rfl ?_
        rw [if_pos h16]
        obtain ⟨hb12, hs⟩ := ck_some hs
        obtain ⟨hb12_0, hb12⟩ := and_t hb12
        refine Rc.goL mt_1280 6 (f2 := (120, [.ref 280, .int x1, .int x2, .int x3, .int x4], [.int (x2 ^^^ ((1 : Int32) <<< (x4 &&& 31))), .ref 334], gm M)) (b := true) rfl rfl ?_
        by_cases h15 : x3 < (M.1 334 (Int32.toNatClampNeg (x2 ^^^ ((1 : Int32) <<< (x4 &&& 31)))))
        · rw [if_pos h15] at hs
          refine Rc.goL mt_1280 2 (f2 := (if x3 < (M.1 334 (Int32.toNatClampNeg (x2 ^^^ ((1 : Int32) <<< (x4 &&& 31))))) then 125 else 137, [.ref 280, .int x1, .int x2, .int x3, .int x4], [], gm M)) (b := (ib 4096 (x2 ^^^ ((1 : Int32) <<< (x4 &&& 31))) && true)) rfl (and_i hb12_0 rfl) ?_
          rw [if_pos h15]
          obtain ⟨hb13, hs⟩ := ck_some hs
          obtain ⟨hb13_0, hb13⟩ := and_t hb13
          refine Rc.goL mt_1280 6 (f2 := (135, [.ref 280, .int x1, .int x2, .int x3, .int x4], [.int (x2 ^^^ ((1 : Int32) <<< (x4 &&& 31))), .ref 334], gm M)) (b := true) rfl rfl ?_
          refine lt_g hs (fun z14 Hz14 hs => ?_)
          refine Rc.goL mt_1280 1 (f2 := (137, [.ref 280, .int x1, .int x2, .int z14, .int x4], [], gm M)) (b := (ib 4096 (x2 ^^^ ((1 : Int32) <<< (x4 &&& 31))) && true)) (by subst Hz14; rfl) (and_i hb13_0 rfl) ?_
          refine Rc.goL mt_1280 1 (f2 := (94, [.ref 280, .int x1, .int x2, .int z14, .int (x4 + (1 : Int32))], [], gm M)) (b := true) rfl rfl ?_
          refine Rc.less (ls2 := [.ref 280, .int x1, .int x2, .int z14, .int (x4 + (1 : Int32))]) (by refine ⟨Or.inr rfl, Or.inr rfl, Or.inr rfl, Or.inr rfl, Or.inr rfl, trivial⟩) ?_
          exact ih x1 x2 z14 (x4 + (1 : Int32)) _ _ _ hs
        · rw [if_neg h15] at hs
          refine Rc.goL mt_1280 2 (f2 := (if x3 < (M.1 334 (Int32.toNatClampNeg (x2 ^^^ ((1 : Int32) <<< (x4 &&& 31))))) then 125 else 137, [.ref 280, .int x1, .int x2, .int x3, .int x4], [], gm M)) (b := (ib 4096 (x2 ^^^ ((1 : Int32) <<< (x4 &&& 31))) && true)) rfl (and_i hb12_0 rfl) ?_
          rw [if_neg h15]
          refine Rc.goL mt_1280 1 (f2 := (94, [.ref 280, .int x1, .int x2, .int x3, .int (x4 + (1 : Int32))], [], gm M)) (b := true) rfl rfl ?_
          refine Rc.less (ls2 := [.ref 280, .int x1, .int x2, .int x3, .int (x4 + (1 : Int32))]) (by refine ⟨Or.inr rfl, Or.inr rfl, Or.inr rfl, Or.inr rfl, Or.inr rfl, trivial⟩) ?_
          exact ih x1 x2 x3 (x4 + (1 : Int32)) _ _ _ hs
      · rw [if_neg h16] at hs
        refine Rc.goL mt_1280 6 (f2 := (if ((x2 >>> (x4 &&& 31)) &&& (1 : Int32)) = (1 : Int32) then 110 else 137, [.ref 280, .int x1, .int x2, .int x3, .int x4], [], gm M)) (b := true) rfl rfl ?_
        rw [if_neg h16]
        refine Rc.goL mt_1280 1 (f2 := (94, [.ref 280, .int x1, .int x2, .int x3, .int (x4 + (1 : Int32))], [], gm M)) (b := true) rfl rfl ?_
        refine Rc.less (ls2 := [.ref 280, .int x1, .int x2, .int x3, .int (x4 + (1 : Int32))]) (by refine ⟨Or.inr rfl, Or.inr rfl, Or.inr rfl, Or.inr rfl, Or.inr rfl, trivial⟩) ?_
        exact ih x1 x2 x3 (x4 + (1 : Int32)) _ _ _ hs
    · rw [if_neg h17] at hs
      refine Rc.goL mt_1280 2 (f2 := (if x4 < x1 then 100 else 143, [.ref 280, .int x1, .int x2, .int x3, .int x4], [], gm M)) (b := true) rfl rfl ?_
      rw [if_neg h17]
      refine Rc.less (ls2 := [.ref 280, .int x1, .int x2, .int x3, UU]) (by refine ⟨Or.inr rfl, Or.inr rfl, Or.inr rfl, Or.inr rfl, Or.inl rfl, trivial⟩) ?_
      exact hk143 x1 x2 x3 _ _ _ hs
set_option maxRecDepth 20000 in
theorem qmd_payments_L82_ok (d : Nat) (hd : 1 ≤ d + 1) : ∀ (n : Nat) (x1 : Int32) (x2 : Int32) (M : SM) (r : Int32) (Mz : SM), qmd_payments_L82 n x1 x2 M = some (r, Mz) → Rc (d + 1) 1280 (82, [.ref 280, .int x1, .int x2, UU, UU], [], gm M) (some (.int r), gm Mz) := by
  intro n
  induction n with
  | zero => intro x1 x2 M r Mz hs; cases hs
  | succ n ih =>
    intro x1 x2 M r Mz hs
    rw [qmd_payments_L82] at hs
    by_cases h27 : x2 < ((1 : Int32) <<< (x1 &&& 31))
    · rw [if_pos h27] at hs
      refine Rc.goL mt_1280 4 (f2 := (if x2 < ((1 : Int32) <<< (x1 &&& 31)) then 89 else 173, [.ref 280, .int x1, .int x2, UU, UU], [], gm M)) (b := true) rfl rfl ?_
      rw [if_pos h27]
      refine Rc.goL mt_1280 3 (f2 := (94, [.ref 280, .int x1, .int x2, .int (0 : Int32), .int (0 : Int32)], [], gm M)) (b := true) rfl rfl ?_
      refine Rc.less (ls2 := [.ref 280, .int x1, .int x2, .int (0 : Int32), .int (0 : Int32)]) (by refine ⟨Or.inr rfl, Or.inr rfl, Or.inr rfl, Or.inr rfl, Or.inr rfl, trivial⟩) ?_
      refine qmd_payments_L94_ok d hd _ (fun y1_18 y2_19 y3_20 M21 r Mz hs => ?_) _ x1 x2 (0 : Int32) (0 : Int32) _ _ _ hs
      · obtain ⟨hb22, hs⟩ := ck_some hs
        obtain ⟨hb22_0, hb22⟩ := and_t hb22
        refine Rc.goL mt_1280 6 (f2 := (154, [.ref 280, .int y1_18, .int y2_19, .int y3_20, UU], [.int y2_19, .ref 333, .int y3_20, .int y2_19, .ref 334], gm M21)) (b := true) rfl rfl ?_
        by_cases h25 : (lg_cmp (M21.2 333 (Int32.toNatClampNeg y2_19)) (0 : Int64)) = 0
        · rw [if_pos h25] at hs
          refine Rc.goL mt_1280 3 (f2 := (if (lg_cmp (M21.2 333 (Int32.toNatClampNeg y2_19)) (0 : Int64)) = 0 then 160 else 164, [.ref 280, .int y1_18, .int y2_19, .int y3_20, UU], [.int y3_20, .int y2_19, .ref 334], gm M21)) (b := (ib 4096 y2_19 && true)) rfl (and_i hb22_0 rfl) ?_
          rw [if_pos h25]
          refine Rc.goL mt_1280 1 (f2 := (165, [.ref 280, .int y1_18, .int y2_19, .int y3_20, UU], [.int (1 : Int32), .int y3_20, .int y2_19, .ref 334], gm M21)) (b := true) rfl rfl ?_
          obtain ⟨hb23, hs⟩ := ck_some hs
          obtain ⟨hb23_0, hb23⟩ := and_t hb23
          refine Rc.goL mt_1280 1 (f2 := (167, [.ref 280, .int y1_18, .int y2_19, .int y3_20, UU], [], gm (wI M21 334 (Int32.toNatClampNeg y2_19) (y3_20 + (1 : Int32))))) (b := (ib 4096 y2_19 && true)) rfl (and_i hb23_0 rfl) ?_
          refine Rc.goL mt_1280 1 (f2 := (82, [.ref 280, .int y1_18, .int (y2_19 + (1 : Int32)), .int y3_20, UU], [], gm (wI M21 334 (Int32.toNatClampNeg y2_19) (y3_20 + (1 : Int32))))) (b := true) rfl rfl ?_
          refine Rc.less (ls2 := [.ref 280, .int y1_18, .int (y2_19 + (1 : Int32)), UU, UU]) (by refine ⟨Or.inr rfl, Or.inr rfl, Or.inr rfl, Or.inl rfl, Or.inl rfl, trivial⟩) ?_
          exact ih y1_18 (y2_19 + (1 : Int32)) _ _ _ hs
        · rw [if_neg h25] at hs
          refine Rc.goL mt_1280 3 (f2 := (if (lg_cmp (M21.2 333 (Int32.toNatClampNeg y2_19)) (0 : Int64)) = 0 then 160 else 164, [.ref 280, .int y1_18, .int y2_19, .int y3_20, UU], [.int y3_20, .int y2_19, .ref 334], gm M21)) (b := (ib 4096 y2_19 && true)) rfl (and_i hb22_0 rfl) ?_
          rw [if_neg h25]
          refine Rc.goL mt_1280 0 (f2 := (165, [.ref 280, .int y1_18, .int y2_19, .int y3_20, UU], [.int (0 : Int32), .int y3_20, .int y2_19, .ref 334], gm M21)) (b := true) rfl rfl ?_
          obtain ⟨hb24, hs⟩ := ck_some hs
          obtain ⟨hb24_0, hb24⟩ := and_t hb24
          refine Rc.goL mt_1280 1 (f2 := (167, [.ref 280, .int y1_18, .int y2_19, .int y3_20, UU], [], gm (wI M21 334 (Int32.toNatClampNeg y2_19) (y3_20 + (0 : Int32))))) (b := (ib 4096 y2_19 && true)) rfl (and_i hb24_0 rfl) ?_
          refine Rc.goL mt_1280 1 (f2 := (82, [.ref 280, .int y1_18, .int (y2_19 + (1 : Int32)), .int y3_20, UU], [], gm (wI M21 334 (Int32.toNatClampNeg y2_19) (y3_20 + (0 : Int32))))) (b := true) rfl rfl ?_
          refine Rc.less (ls2 := [.ref 280, .int y1_18, .int (y2_19 + (1 : Int32)), UU, UU]) (by refine ⟨Or.inr rfl, Or.inr rfl, Or.inr rfl, Or.inl rfl, Or.inl rfl, trivial⟩) ?_
          exact ih y1_18 (y2_19 + (1 : Int32)) _ _ _ hs
    · rw [if_neg h27] at hs
      refine Rc.goL mt_1280 4 (f2 := (if x2 < ((1 : Int32) <<< (x1 &&& 31)) then 89 else 173, [.ref 280, .int x1, .int x2, UU, UU], [], gm M)) (b := true) rfl rfl ?_
      rw [if_neg h27]
      obtain ⟨hb26, hs⟩ := ck_some hs
      obtain ⟨hb26_0, hb26⟩ := and_t hb26
      refine Rc.goL mt_1280 6 (f2 := (182, [.ref 280, .int x1, .int x2, UU, UU], [.int (1 : Int32), .int ((1 : Int32) <<< (x1 &&& 31)), .ref 334, .int x1], gm M)) (b := true) rfl rfl ?_
      refine Rc.goL mt_1280 2 (f2 := (185, [.ref 280, .int x1, .int x2, UU, UU], [.int (x1 - (M.1 334 (Int32.toNatClampNeg (((1 : Int32) <<< (x1 &&& 31)) - (1 : Int32)))))], gm M)) (b := (ib 4096 (((1 : Int32) <<< (x1 &&& 31)) - (1 : Int32)) && true)) rfl (and_i hb26_0 rfl) ?_
      obtain ⟨e1, e2⟩ := some_p hs; subst e1; subst e2
      exact Rc.ret (v := some (.int (x1 - (M.1 334 (Int32.toNatClampNeg (((1 : Int32) <<< (x1 &&& 31)) - (1 : Int32))))))) rfl rfl
set_option maxRecDepth 20000 in
theorem qmd_payments_ok (d : Nat) (hd : 1 ≤ d) {M : SM} {r : Int32} {Mz : SM} (hs : qmd_payments M = some (r, Mz)) : Ex d 1280 [.ref 280] (gm M) (some (.int r), gm Mz) := by
  obtain ⟨d, rfl⟩ : ∃ d0, d = d0 + 1 := ⟨d - 1, by omega⟩
  refine Ex.of okm_1280 (by omega) (Nat.le_of_ble_eq_true rfl) ?_
  show Rc (d + 1) 1280 (0, [.ref 280, UU, UU, UU, UU], [], gm M) _
  unfold qmd_payments at hs
  refine Rc.goL mt_1280 3 (f2 := (4, [.ref 280, .int (0 : Int32), .int (0 : Int32), UU, UU], [], gm M)) (b := true) rfl rfl ?_
  refine Rc.less (ls2 := [.ref 280, .int (0 : Int32), .int (0 : Int32), UU, UU]) (by refine ⟨Or.inr rfl, Or.inr rfl, Or.inr rfl, Or.inl rfl, Or.inl rfl, trivial⟩) ?_
  refine qmd_payments_L4_ok d hd _ (fun y1_10 M11 r Mz hs => ?_) _ (0 : Int32) (0 : Int32) _ _ _ hs
  · refine Rc.goL mt_1280 1 (f2 := (82, [.ref 280, .int y1_10, .int (1 : Int32), UU, UU], [], gm M11)) (b := true) rfl rfl ?_
    refine Rc.less (ls2 := [.ref 280, .int y1_10, .int (1 : Int32), UU, UU]) (by refine ⟨Or.inr rfl, Or.inr rfl, Or.inr rfl, Or.inl rfl, Or.inl rfl, trivial⟩) ?_
    exact qmd_payments_L82_ok d hd _ y1_10 (1 : Int32) _ _ _ hs
def qmd_clear_L16 : Nat → Int32 → SM → Option (Int32 × SM)
  | 0, _, _ => none
  | n + 1, x1, M =>
    if x1 < (18 : Int32) then
    (ck (ib 18 x1 && true) (
      qmd_clear_L16 n (x1 + (1 : Int32)) (wL M 332 (Int32.toNatClampNeg x1) (0 : Int64)))) else
    (some ((1 : Int32), M))
def qmd_clear (M : SM) : Option (Int32 × SM) :=
  if (M.1 280 83) = 0 then
  (some ((0 : Int32), M)) else
  (qmd_clear_L16 FU (0 : Int32) (wI M 280 83 (0 : Int32)))
theorem mt_1281 : MT 1281 K_1281 LN_12 := ⟨rfl, rfl, by decide +kernel⟩
theorem okm_1281 : OKm 1281 := ⟨⟨vE_1281, okL_12, by decide +kernel⟩, by decide +kernel, by decide +kernel, by decide +kernel⟩
set_option maxRecDepth 20000 in
theorem qmd_clear_L16_ok (d : Nat) (hd : 1 ≤ d + 1) : ∀ (n : Nat) (x1 : Int32) (M : SM) (r : Int32) (Mz : SM), qmd_clear_L16 n x1 M = some (r, Mz) → Rc (d + 1) 1281 (16, [.ref 280, .int x1], [], gm M) (some (.int r), gm Mz) := by
  intro n
  induction n with
  | zero => intro x1 M r Mz hs; cases hs
  | succ n ih =>
    intro x1 M r Mz hs
    rw [qmd_clear_L16] at hs
    by_cases h2 : x1 < (18 : Int32)
    · rw [if_pos h2] at hs
      refine Rc.goL mt_1281 2 (f2 := (if x1 < (18 : Int32) then 22 else 35, [.ref 280, .int x1], [], gm M)) (b := true) rfl rfl ?_
      rw [if_pos h2]
      obtain ⟨hb1, hs⟩ := ck_some hs
      obtain ⟨hb1_0, hb1⟩ := and_t hb1
      refine Rc.goL mt_1281 4 (f2 := (29, [.ref 280, .int x1], [], gm (wL M 332 (Int32.toNatClampNeg x1) (0 : Int64)))) (b := (ib 18 x1 && true)) rfl (and_i hb1_0 rfl) ?_
      refine Rc.goL mt_1281 1 (f2 := (16, [.ref 280, .int (x1 + (1 : Int32))], [], gm (wL M 332 (Int32.toNatClampNeg x1) (0 : Int64)))) (b := true) rfl rfl ?_
      refine Rc.less (ls2 := [.ref 280, .int (x1 + (1 : Int32))]) (by refine ⟨Or.inr rfl, Or.inr rfl, trivial⟩) ?_
      exact ih (x1 + (1 : Int32)) _ _ _ hs
    · rw [if_neg h2] at hs
      refine Rc.goL mt_1281 2 (f2 := (if x1 < (18 : Int32) then 22 else 35, [.ref 280, .int x1], [], gm M)) (b := true) rfl rfl ?_
      rw [if_neg h2]
      refine Rc.goL mt_1281 0 (f2 := (36, [.ref 280, .int x1], [.int (1 : Int32)], gm M)) (b := true) rfl rfl ?_
      obtain ⟨e1, e2⟩ := some_p hs; subst e1; subst e2
      exact Rc.ret (v := some (.int (1 : Int32))) rfl rfl
set_option maxRecDepth 20000 in
theorem qmd_clear_ok (d : Nat) (hd : 1 ≤ d) {M : SM} {r : Int32} {Mz : SM} (hs : qmd_clear M = some (r, Mz)) : Ex d 1281 [.ref 280] (gm M) (some (.int r), gm Mz) := by
  obtain ⟨d, rfl⟩ : ∃ d0, d = d0 + 1 := ⟨d - 1, by omega⟩
  refine Ex.of okm_1281 (by omega) (Nat.le_of_ble_eq_true rfl) ?_
  show Rc (d + 1) 1281 (0, [.ref 280, UU], [], gm M) _
  unfold qmd_clear at hs
  by_cases h3 : (M.1 280 83) = 0
  · rw [if_pos h3] at hs
    refine Rc.goL mt_1281 2 (f2 := (if (M.1 280 83) = 0 then 7 else 9, [.ref 280, UU], [], gm M)) (b := true) rfl rfl ?_
    rw [if_pos h3]
    refine Rc.goL mt_1281 0 (f2 := (8, [.ref 280, UU], [.int (0 : Int32)], gm M)) (b := true) rfl rfl ?_
    obtain ⟨e1, e2⟩ := some_p hs; subst e1; subst e2
    exact Rc.ret (v := some (.int (0 : Int32))) rfl rfl
  · rw [if_neg h3] at hs
    refine Rc.goL mt_1281 2 (f2 := (if (M.1 280 83) = 0 then 7 else 9, [.ref 280, UU], [], gm M)) (b := true) rfl rfl ?_
    rw [if_neg h3]
    refine Rc.goL mt_1281 2 (f2 := (14, [.ref 280, UU], [], gm (wI M 280 83 (0 : Int32)))) (b := true) rfl rfl ?_
    refine Rc.goL mt_1281 1 (f2 := (16, [.ref 280, .int (0 : Int32)], [], gm (wI M 280 83 (0 : Int32)))) (b := true) rfl rfl ?_
    refine Rc.less (ls2 := [.ref 280, .int (0 : Int32)]) (by refine ⟨Or.inr rfl, Or.inr rfl, trivial⟩) ?_
    exact qmd_clear_L16_ok d hd _ (0 : Int32) _ _ _ hs
def qmd_fund (x1 : Int32) (M : SM) : Option (Int32 × SM) :=
  ob (qmd_in x1 (1 : Int32) (1000000 : Int32) M) (fun r1 M2 =>
  if r1 = 0 then
  (some ((-1 : Int32), M2)) else
  (if (1000000000 : Int32) < ((M2.1 280 87) + x1) then
    (some ((-1 : Int32), M2)) else
    (some (((M2.1 280 87) + x1), (wI M2 280 87 ((M2.1 280 87) + x1))))))
theorem mt_1282 : MT 1282 K_1282 LN_12 := ⟨rfl, rfl, by decide +kernel⟩
theorem okm_1282 : OKm 1282 := ⟨⟨vE_1282, okL_12, by decide +kernel⟩, by decide +kernel, by decide +kernel, by decide +kernel⟩
set_option maxRecDepth 20000 in
theorem qmd_fund_ok (d : Nat) (hd : 2 ≤ d) {x1 : Int32} {M : SM} {r : Int32} {Mz : SM} (hs : qmd_fund x1 M = some (r, Mz)) : Ex d 1282 [.ref 280, .int x1] (gm M) (some (.int r), gm Mz) := by
  obtain ⟨d, rfl⟩ : ∃ d0, d = d0 + 1 := ⟨d - 1, by omega⟩
  refine Ex.of okm_1282 (by omega) (Nat.le_of_ble_eq_true rfl) ?_
  show Rc (d + 1) 1282 (0, [.ref 280, .int x1], [], gm M) _
  unfold qmd_fund at hs
  refine Rc.goL mt_1282 2 (f2 := (5, [.ref 280, .int x1], [.int (1000000 : Int32), .int (1 : Int32), .int x1], gm M)) (b := true) rfl rfl ?_
  obtain ⟨r1, M2, he3, hs⟩ := ob_some hs
  refine Rc.callS (i := 195) (mid' := 1201) (av := [.int x1, .int (1 : Int32), .int (1000000 : Int32)]) (rest := []) (v := some (.int r1)) (M1 := gm M2) rfl (Or.inl rfl) rfl cw_1201 rfl (Nat.le_of_ble_eq_true rfl) (qmd_in_ok _ (by omega) he3) ?_
  by_cases h5 : r1 = 0
  · rw [if_pos h5] at hs
    refine Rc.goL mt_1282 0 (f2 := (if r1 = 0 then 23 else 11, [.ref 280, .int x1], [], gm M2)) (b := true) rfl rfl ?_
    rw [if_pos h5]
    refine Rc.goL mt_1282 0 (f2 := (24, [.ref 280, .int x1], [.int (-1 : Int32)], gm M2)) (b := true) rfl rfl ?_
    obtain ⟨e1, e2⟩ := some_p hs; subst e1; subst e2
    exact Rc.ret (v := some (.int (-1 : Int32))) rfl rfl
  · rw [if_neg h5] at hs
    refine Rc.goL mt_1282 0 (f2 := (if r1 = 0 then 23 else 11, [.ref 280, .int x1], [], gm M2)) (b := true) rfl rfl ?_
    rw [if_neg h5]
    by_cases h4 : (1000000000 : Int32) < ((M2.1 280 87) + x1)
    · rw [if_pos h4] at hs
      refine Rc.goL mt_1282 5 (f2 := (if (1000000000 : Int32) < ((M2.1 280 87) + x1) then 23 else 25, [.ref 280, .int x1], [], gm M2)) (b := true) rfl rfl ?_
      rw [if_pos h4]
      refine Rc.goL mt_1282 0 (f2 := (24, [.ref 280, .int x1], [.int (-1 : Int32)], gm M2)) (b := true) rfl rfl ?_
      obtain ⟨e1, e2⟩ := some_p hs; subst e1; subst e2
      exact Rc.ret (v := some (.int (-1 : Int32))) rfl rfl
    · rw [if_neg h4] at hs
      refine Rc.goL mt_1282 5 (f2 := (if (1000000000 : Int32) < ((M2.1 280 87) + x1) then 23 else 25, [.ref 280, .int x1], [], gm M2)) (b := true) rfl rfl ?_
      rw [if_neg h4]
      refine Rc.goL mt_1282 5 (f2 := (35, [.ref 280, .int x1], [], gm (wI M2 280 87 ((M2.1 280 87) + x1)))) (b := true) rfl rfl ?_
      refine Rc.goL mt_1282 1 (f2 := (39, [.ref 280, .int x1], [.int ((M2.1 280 87) + x1)], gm (wI M2 280 87 ((M2.1 280 87) + x1)))) (b := true) rfl rfl ?_
      obtain ⟨e1, e2⟩ := some_p hs; subst e1; subst e2
      exact Rc.ret (v := some (.int ((M2.1 280 87) + x1))) rfl rfl
def qmd_strike (x1 : Int32) (x2 : Int32) (M : SM) : Option (Int32 × SM) :=
  ob (qmd_isKnitter x1 M) (fun r1 M2 =>
  if r1 = 0 then
  (some ((0 : Int32), M2)) else
  (ck (ib 12 x1 && true) (
    if (M2.1 335 (Int32.toNatClampNeg x1)) = x2 then
    (some ((0 : Int32), M2)) else
    (ck (ib 12 x1 && true) (
      some ((1 : Int32), (wI M2 335 (Int32.toNatClampNeg x1) (x2 &&& 1))))))))
theorem mt_1283 : MT 1283 K_1283 LN_12 := ⟨rfl, rfl, by decide +kernel⟩
theorem okm_1283 : OKm 1283 := ⟨⟨vE_1283, okL_12, by decide +kernel⟩, by decide +kernel, by decide +kernel, by decide +kernel⟩
set_option maxRecDepth 20000 in
theorem qmd_strike_ok (d : Nat) (hd : 2 ≤ d) {x1 : Int32} {x2 : Int32} {M : SM} {r : Int32} {Mz : SM} (hs : qmd_strike x1 x2 M = some (r, Mz)) : Ex d 1283 [.ref 280, .int x1, .int x2] (gm M) (some (.int r), gm Mz) := by
  obtain ⟨d, rfl⟩ : ∃ d0, d = d0 + 1 := ⟨d - 1, by omega⟩
  refine Ex.of okm_1283 (by omega) (Nat.le_of_ble_eq_true rfl) ?_
  show Rc (d + 1) 1283 (0, [.ref 280, .int x1, .int x2], [], gm M) _
  unfold qmd_strike at hs
  refine Rc.goL mt_1283 1 (f2 := (2, [.ref 280, .int x1, .int x2], [.int x1, .ref 280], gm M)) (b := true) rfl rfl ?_
  obtain ⟨r1, M2, he3, hs⟩ := ob_some hs
  refine Rc.callV (i := 202) (mid' := 1203) (av := [.int x1]) (rest := []) (v := some (.int r1)) (M1 := gm M2) (a := 280) rfl rfl rfl cw_1203 rfl (Nat.le_of_ble_eq_true rfl) rfl (Nat.le_of_ble_eq_true rfl) (qmd_isKnitter_ok _ (by omega) he3) ?_
  by_cases h7 : r1 = 0
  · rw [if_pos h7] at hs
    refine Rc.goL mt_1283 0 (f2 := (if r1 = 0 then 18 else 8, [.ref 280, .int x1, .int x2], [], gm M2)) (b := true) rfl rfl ?_
    rw [if_pos h7]
    refine Rc.goL mt_1283 0 (f2 := (19, [.ref 280, .int x1, .int x2], [.int (0 : Int32)], gm M2)) (b := true) rfl rfl ?_
    obtain ⟨e1, e2⟩ := some_p hs; subst e1; subst e2
    exact Rc.ret (v := some (.int (0 : Int32))) rfl rfl
  · rw [if_neg h7] at hs
    refine Rc.goL mt_1283 0 (f2 := (if r1 = 0 then 18 else 8, [.ref 280, .int x1, .int x2], [], gm M2)) (b := true) rfl rfl ?_
    rw [if_neg h7]
    obtain ⟨hb4, hs⟩ := ck_some hs
    by_cases h6 : (M2.1 335 (Int32.toNatClampNeg x1)) = x2
    · rw [if_pos h6] at hs
      refine Rc.goL mt_1283 5 (f2 := (if (M2.1 335 (Int32.toNatClampNeg x1)) = x2 then 18 else 20, [.ref 280, .int x1, .int x2], [], gm M2)) (b := (ib 12 x1 && true)) rfl hb4 ?_
      rw [if_pos h6]
      refine Rc.goL mt_1283 0 (f2 := (19, [.ref 280, .int x1, .int x2], [.int (0 : Int32)], gm M2)) (b := true) rfl rfl ?_
      obtain ⟨e1, e2⟩ := some_p hs; subst e1; subst e2
      exact Rc.ret (v := some (.int (0 : Int32))) rfl rfl
    · rw [if_neg h6] at hs
      refine Rc.goL mt_1283 5 (f2 := (if (M2.1 335 (Int32.toNatClampNeg x1)) = x2 then 18 else 20, [.ref 280, .int x1, .int x2], [], gm M2)) (b := (ib 12 x1 && true)) rfl hb4 ?_
      rw [if_neg h6]
      obtain ⟨hb5, hs⟩ := ck_some hs
      obtain ⟨hb5_0, hb5⟩ := and_t hb5
      refine Rc.goL mt_1283 4 (f2 := (27, [.ref 280, .int x1, .int x2], [], gm (wI M2 335 (Int32.toNatClampNeg x1) (x2 &&& 1)))) (b := (ib 12 x1 && true)) rfl (and_i hb5_0 rfl) ?_
      refine Rc.goL mt_1283 0 (f2 := (28, [.ref 280, .int x1, .int x2], [.int (1 : Int32)], gm (wI M2 335 (Int32.toNatClampNeg x1) (x2 &&& 1)))) (b := true) rfl rfl ?_
      obtain ⟨e1, e2⟩ := some_p hs; subst e1; subst e2
      exact Rc.ret (v := some (.int (1 : Int32))) rfl rfl
def qmd_lasts_L4 (k45 : Int32 → SM → Option (Int32 × SM)) : Nat → Int32 → Int32 → SM → Option (Int32 × SM)
  | 0, _, _, _ => none
  | n + 1, x1, x2, M =>
    if x2 < (M.1 280 2) then
    (ck (ib 12 x2 && true) (
      if (M.1 335 (Int32.toNatClampNeg x2)) = 0 then
      (qmd_lasts_L4 k45 n (x1 + (0 : Int32)) (x2 + (1 : Int32)) M) else
      (ck (ib 12 x2 && true) (
        qmd_lasts_L4 k45 n (x1 + ((M.1 280 60) * (M.1 282 (Int32.toNatClampNeg x2)))) (x2 + (1 : Int32)) M)))) else
    (k45 x1 M)
def qmd_lasts (M : SM) : Option (Int32 × SM) :=
  qmd_lasts_L4 (fun y1_5 M6 =>
  if y1_5 = 0 then
    (some ((-1 : Int32), M6)) else
    (ck (decide (¬ y1_5 = 0) && true) (
      some (((M6.1 280 87) / y1_5), M6)))) FU (0 : Int32) (0 : Int32) M
theorem mt_1284 : MT 1284 K_1284 LN_12 := ⟨rfl, rfl, by decide +kernel⟩
theorem okm_1284 : OKm 1284 := ⟨⟨vE_1284, okL_12, by decide +kernel⟩, by decide +kernel, by decide +kernel, by decide +kernel⟩
set_option maxRecDepth 20000 in
theorem qmd_lasts_L4_ok (d : Nat) (hd : 1 ≤ d + 1) (k45 : Int32 → SM → Option (Int32 × SM)) (hk45 : ∀ (y1 : Int32) (M : SM) (r : Int32) (Mz : SM), k45 y1 M = some (r, Mz) → Rc (d + 1) 1284 (45, [.ref 280, .int y1, UU], [], gm M) (some (.int r), gm Mz)) : ∀ (n : Nat) (x1 : Int32) (x2 : Int32) (M : SM) (r : Int32) (Mz : SM), qmd_lasts_L4 k45 n x1 x2 M = some (r, Mz) → Rc (d + 1) 1284 (4, [.ref 280, .int x1, .int x2], [], gm M) (some (.int r), gm Mz) := by
  intro n
  induction n with
  | zero => intro x1 x2 M r Mz hs; cases hs
  | succ n ih =>
    intro x1 x2 M r Mz hs
    rw [qmd_lasts_L4] at hs
    by_cases h4 : x2 < (M.1 280 2)
    · rw [if_pos h4] at hs
      refine Rc.goL mt_1284 3 (f2 := (if x2 < (M.1 280 2) then 12 else 45, [.ref 280, .int x1, .int x2], [], gm M)) (b := true) rfl rfl ?_
      rw [if_pos h4]
      obtain ⟨hb1, hs⟩ := ck_some hs
      by_cases h3 : (M.1 335 (Int32.toNatClampNeg x2)) = 0
      · rw [if_pos h3] at hs
        refine Rc.goL mt_1284 5 (f2 := (if (M.1 335 (Int32.toNatClampNeg x2)) = 0 then 36 else 22, [.ref 280, .int x1, .int x2], [.int x1], gm M)) (b := (ib 12 x2 && true)) rfl hb1 ?_
        rw [if_pos h3]
        refine Rc.goL mt_1284 0 (f2 := (37, [.ref 280, .int x1, .int x2], [.int (0 : Int32), .int x1], gm M)) (b := true) rfl rfl ?_
        refine Rc.goL mt_1284 3 (f2 := (4, [.ref 280, .int (x1 + (0 : Int32)), .int (x2 + (1 : Int32))], [], gm M)) (b := true) rfl rfl ?_
        refine Rc.less (ls2 := [.ref 280, .int (x1 + (0 : Int32)), .int (x2 + (1 : Int32))]) (by refine ⟨Or.inr rfl, Or.inr rfl, Or.inr rfl, trivial⟩) ?_
        exact ih (x1 + (0 : Int32)) (x2 + (1 : Int32)) _ _ _ hs
      · rw [if_neg h3] at hs
        refine Rc.goL mt_1284 5 (f2 := (if (M.1 335 (Int32.toNatClampNeg x2)) = 0 then 36 else 22, [.ref 280, .int x1, .int x2], [.int x1], gm M)) (b := (ib 12 x2 && true)) rfl hb1 ?_
        rw [if_neg h3]
        obtain ⟨hb2, hs⟩ := ck_some hs
        obtain ⟨hb2_0, hb2⟩ := and_t hb2
        refine Rc.goL mt_1284 6 (f2 := (33, [.ref 280, .int x1, .int x2], [.int ((M.1 280 60) * (M.1 282 (Int32.toNatClampNeg x2))), .int x1], gm M)) (b := (ib 12 x2 && true)) rfl (and_i hb2_0 rfl) ?_
        refine Rc.goL mt_1284 0 (f2 := (37, [.ref 280, .int x1, .int x2], [.int ((M.1 280 60) * (M.1 282 (Int32.toNatClampNeg x2))), .int x1], gm M)) (b := true) rfl rfl ?_
        refine Rc.goL mt_1284 3 (f2 := (4, [.ref 280, .int (x1 + ((M.1 280 60) * (M.1 282 (Int32.toNatClampNeg x2)))), .int (x2 + (1 : Int32))], [], gm M)) (b := true) rfl rfl ?_
        refine Rc.less (ls2 := [.ref 280, .int (x1 + ((M.1 280 60) * (M.1 282 (Int32.toNatClampNeg x2)))), .int (x2 + (1 : Int32))]) (by refine ⟨Or.inr rfl, Or.inr rfl, Or.inr rfl, trivial⟩) ?_
        exact ih (x1 + ((M.1 280 60) * (M.1 282 (Int32.toNatClampNeg x2)))) (x2 + (1 : Int32)) _ _ _ hs
    · rw [if_neg h4] at hs
      refine Rc.goL mt_1284 3 (f2 := (if x2 < (M.1 280 2) then 12 else 45, [.ref 280, .int x1, .int x2], [], gm M)) (b := true) rfl rfl ?_
      rw [if_neg h4]
      refine Rc.less (ls2 := [.ref 280, .int x1, UU]) (by refine ⟨Or.inr rfl, Or.inr rfl, Or.inl rfl, trivial⟩) ?_
      exact hk45 x1 _ _ _ hs
set_option maxRecDepth 20000 in
theorem qmd_lasts_ok (d : Nat) (hd : 1 ≤ d) {M : SM} {r : Int32} {Mz : SM} (hs : qmd_lasts M = some (r, Mz)) : Ex d 1284 [.ref 280] (gm M) (some (.int r), gm Mz) := by
  obtain ⟨d, rfl⟩ : ∃ d0, d = d0 + 1 := ⟨d - 1, by omega⟩
  refine Ex.of okm_1284 (by omega) (Nat.le_of_ble_eq_true rfl) ?_
  show Rc (d + 1) 1284 (0, [.ref 280, UU, UU], [], gm M) _
  unfold qmd_lasts at hs
  refine Rc.goL mt_1284 3 (f2 := (4, [.ref 280, .int (0 : Int32), .int (0 : Int32)], [], gm M)) (b := true) rfl rfl ?_
  refine Rc.less (ls2 := [.ref 280, .int (0 : Int32), .int (0 : Int32)]) (by refine ⟨Or.inr rfl, Or.inr rfl, Or.inr rfl, trivial⟩) ?_
  refine qmd_lasts_L4_ok d hd _ (fun y1_5 M6 r Mz hs => ?_) _ (0 : Int32) (0 : Int32) _ _ _ hs
  · by_cases h8 : y1_5 = 0
    · rw [if_pos h8] at hs
      refine Rc.goL mt_1284 1 (f2 := (if y1_5 = 0 then 49 else 53, [.ref 280, .int y1_5, UU], [], gm M6)) (b := true) rfl rfl ?_
      rw [if_pos h8]
      refine Rc.goL mt_1284 1 (f2 := (59, [.ref 280, .int y1_5, UU], [.int (-1 : Int32)], gm M6)) (b := true) rfl rfl ?_
      obtain ⟨e1, e2⟩ := some_p hs; subst e1; subst e2
      exact Rc.ret (v := some (.int (-1 : Int32))) rfl rfl
    · rw [if_neg h8] at hs
      refine Rc.goL mt_1284 1 (f2 := (if y1_5 = 0 then 49 else 53, [.ref 280, .int y1_5, UU], [], gm M6)) (b := true) rfl rfl ?_
      rw [if_neg h8]
      obtain ⟨hb7, hs⟩ := ck_some hs
      refine Rc.goL mt_1284 3 (f2 := (59, [.ref 280, .int y1_5, UU], [.int ((M6.1 280 87) / y1_5)], gm M6)) (b := (decide (¬ y1_5 = 0) && true)) rfl hb7 ?_
      obtain ⟨e1, e2⟩ := some_p hs; subst e1; subst e2
      exact Rc.ret (v := some (.int ((M6.1 280 87) / y1_5))) rfl rfl
def qmd_goes_L16 : Nat → Int32 → Int32 → SM → Option (Int32 × SM)
  | 0, _, _, _ => none
  | n + 1, x1, x2, M =>
    if x2 < (M.1 280 2) then
    (ck (ib 12 x2 && true) (
      jn (fun (x1_2 : Int32) (x2_3 : Int32) (t4 : Int32) (M5 : SM) =>
        if (M5.1 280 87) < t4 then
          (qmd_goes_L16 n x1_2 (x2_3 + (1 : Int32)) M5) else
          (qmd_goes_L16 n (x1_2 + t4) (x2_3 + (1 : Int32)) (wI M5 280 87 ((M5.1 280 87) - t4)))) (fun j7 =>
      if (M.1 335 (Int32.toNatClampNeg x2)) = 0 then
      (j7 x1 x2 (0 : Int32) M) else
      (ck (ib 12 x2 && true) (
        j7 x1 x2 ((M.1 280 60) * (M.1 282 (Int32.toNatClampNeg x2))) M))))) else
    (some (x1, (wI M 280 0 ((M.1 280 0) + (1 : Int32)))))
def qmd_goes (M : SM) : Option (Int32 × SM) :=
  if (M.1 280 0) = (519 : Int32) then
  (some ((-1 : Int32), M)) else
  (qmd_goes_L16 FU (0 : Int32) (0 : Int32) M)
theorem mt_1285 : MT 1285 K_1285 LN_12 := ⟨rfl, rfl, by decide +kernel⟩
theorem okm_1285 : OKm 1285 := ⟨⟨vE_1285, okL_12, by decide +kernel⟩, by decide +kernel, by decide +kernel, by decide +kernel⟩
set_option maxRecDepth 20000 in
theorem qmd_goes_L16_ok (d : Nat) (hd : 1 ≤ d + 1) : ∀ (n : Nat) (x1 : Int32) (x2 : Int32) (M : SM) (r : Int32) (Mz : SM), qmd_goes_L16 n x1 x2 M = some (r, Mz) → Rc (d + 1) 1285 (16, [.ref 280, .int x1, .int x2, UU], [], gm M) (some (.int r), gm Mz) := by
  intro n
  induction n with
  | zero => intro x1 x2 M r Mz hs; cases hs
  | succ n ih =>
    intro x1 x2 M r Mz hs
    rw [qmd_goes_L16] at hs
    by_cases h10 : x2 < (M.1 280 2)
    · rw [if_pos h10] at hs
      refine Rc.goL mt_1285 3 (f2 := (if x2 < (M.1 280 2) then 24 else 80, [.ref 280, .int x1, .int x2, UU], [], gm M)) (b := true) rfl rfl ?_
      rw [if_pos h10]
      obtain ⟨hb1, hs⟩ := ck_some hs
      refine jn_e (P := fun (j : Int32 → Int32 → Int32 → SM → Option (Int32 × SM)) => ∀ (x1_2 : Int32) (x2_3 : Int32) (t4 : Int32) (M5 : SM) (r : Int32) (Mz : SM), j x1_2 x2_3 t4 M5 = some (r, Mz) → Rc (d + 1) 1285 (48, [.ref 280, .int x1_2, .int x2_3, UU], [.int t4], gm M5) (some (.int r), gm Mz)) hs ?_ (fun j7 Hj7 hs => ?_)
      · intro x1_2 x2_3 t4 M5 r Mz hs
        try dsimp only at hs
        by_cases h6 : (M5.1 280 87) < t4
        · rw [if_pos h6] at hs
          refine Rc.goL mt_1285 4 (f2 := (if (M5.1 280 87) < t4 then 57 else 60, [.ref 280, .int x1_2, .int x2_3, .int t4], [], gm M5)) (b := true) rfl rfl ?_
          rw [if_pos h6]
          refine Rc.goL mt_1285 0 (f2 := (74, [.ref 280, .int x1_2, .int x2_3, .int t4], [], gm M5)) (b := true) rfl rfl ?_
          refine Rc.goL mt_1285 1 (f2 := (16, [.ref 280, .int x1_2, .int (x2_3 + (1 : Int32)), .int t4], [], gm M5)) (b := true) rfl rfl ?_
          refine Rc.less (ls2 := [.ref 280, .int x1_2, .int (x2_3 + (1 : Int32)), UU]) (by refine ⟨Or.inr rfl, Or.inr rfl, Or.inr rfl, Or.inl rfl, trivial⟩) ?_
          exact ih x1_2 (x2_3 + (1 : Int32)) _ _ _ hs
        · rw [if_neg h6] at hs
          refine Rc.goL mt_1285 4 (f2 := (if (M5.1 280 87) < t4 then 57 else 60, [.ref 280, .int x1_2, .int x2_3, .int t4], [], gm M5)) (b := true) rfl rfl ?_
          rw [if_neg h6]
          refine Rc.goL mt_1285 5 (f2 := (70, [.ref 280, .int x1_2, .int x2_3, .int t4], [], gm (wI M5 280 87 ((M5.1 280 87) - t4)))) (b := true) rfl rfl ?_
          refine Rc.goL mt_1285 3 (f2 := (74, [.ref 280, .int (x1_2 + t4), .int x2_3, .int t4], [], gm (wI M5 280 87 ((M5.1 280 87) - t4)))) (b := true) rfl rfl ?_
          refine Rc.goL mt_1285 1 (f2 := (16, [.ref 280, .int (x1_2 + t4), .int (x2_3 + (1 : Int32)), .int t4], [], gm (wI M5 280 87 ((M5.1 280 87) - t4)))) (b := true) rfl rfl ?_
          refine Rc.less (ls2 := [.ref 280, .int (x1_2 + t4), .int (x2_3 + (1 : Int32)), UU]) (by refine ⟨Or.inr rfl, Or.inr rfl, Or.inr rfl, Or.inl rfl, trivial⟩) ?_
          exact ih (x1_2 + t4) (x2_3 + (1 : Int32)) _ _ _ hs
      by_cases h9 : (M.1 335 (Int32.toNatClampNeg x2)) = 0
      · rw [if_pos h9] at hs
        refine Rc.goL mt_1285 4 (f2 := (if (M.1 335 (Int32.toNatClampNeg x2)) = 0 then 47 else 33, [.ref 280, .int x1, .int x2, UU], [], gm M)) (b := (ib 12 x2 && true)) rfl hb1 ?_
        rw [if_pos h9]
        refine Rc.goL mt_1285 0 (f2 := (48, [.ref 280, .int x1, .int x2, UU], [.int (0 : Int32)], gm M)) (b := true) rfl rfl ?_
        refine Rc.less (ls2 := [.ref 280, .int x1, .int x2, UU]) (by refine ⟨Or.inr rfl, Or.inr rfl, Or.inr rfl, Or.inl rfl, trivial⟩) ?_
        exact Hj7 x1 x2 (0 : Int32) _ _ _ hs
      · rw [if_neg h9] at hs
        refine Rc.goL mt_1285 4 (f2 := (if (M.1 335 (Int32.toNatClampNeg x2)) = 0 then 47 else 33, [.ref 280, .int x1, .int x2, UU], [], gm M)) (b := (ib 12 x2 && true)) rfl hb1 ?_
        rw [if_neg h9]
        obtain ⟨hb8, hs⟩ := ck_some hs
        obtain ⟨hb8_0, hb8⟩ := and_t hb8
        refine Rc.goL mt_1285 6 (f2 := (44, [.ref 280, .int x1, .int x2, UU], [.int ((M.1 280 60) * (M.1 282 (Int32.toNatClampNeg x2)))], gm M)) (b := (ib 12 x2 && true)) rfl (and_i hb8_0 rfl) ?_
        refine Rc.goL mt_1285 0 (f2 := (48, [.ref 280, .int x1, .int x2, UU], [.int ((M.1 280 60) * (M.1 282 (Int32.toNatClampNeg x2)))], gm M)) (b := true) rfl rfl ?_
        refine Rc.less (ls2 := [.ref 280, .int x1, .int x2, UU]) (by refine ⟨Or.inr rfl, Or.inr rfl, Or.inr rfl, Or.inl rfl, trivial⟩) ?_
        exact Hj7 x1 x2 ((M.1 280 60) * (M.1 282 (Int32.toNatClampNeg x2))) _ _ _ hs
    · rw [if_neg h10] at hs
      refine Rc.goL mt_1285 3 (f2 := (if x2 < (M.1 280 2) then 24 else 80, [.ref 280, .int x1, .int x2, UU], [], gm M)) (b := true) rfl rfl ?_
      rw [if_neg h10]
      refine Rc.goL mt_1285 5 (f2 := (90, [.ref 280, .int x1, .int x2, UU], [], gm (wI M 280 0 ((M.1 280 0) + (1 : Int32))))) (b := true) rfl rfl ?_
      refine Rc.goL mt_1285 0 (f2 := (91, [.ref 280, .int x1, .int x2, UU], [.int x1], gm (wI M 280 0 ((M.1 280 0) + (1 : Int32))))) (b := true) rfl rfl ?_
      obtain ⟨e1, e2⟩ := some_p hs; subst e1; subst e2
      exact Rc.ret (v := some (.int x1)) rfl rfl
set_option maxRecDepth 20000 in
theorem qmd_goes_ok (d : Nat) (hd : 1 ≤ d) {M : SM} {r : Int32} {Mz : SM} (hs : qmd_goes M = some (r, Mz)) : Ex d 1285 [.ref 280] (gm M) (some (.int r), gm Mz) := by
  obtain ⟨d, rfl⟩ : ∃ d0, d = d0 + 1 := ⟨d - 1, by omega⟩
  refine Ex.of okm_1285 (by omega) (Nat.le_of_ble_eq_true rfl) ?_
  show Rc (d + 1) 1285 (0, [.ref 280, UU, UU, UU], [], gm M) _
  unfold qmd_goes at hs
  by_cases h11 : (M.1 280 0) = (519 : Int32)
  · rw [if_pos h11] at hs
    refine Rc.goL mt_1285 3 (f2 := (if (M.1 280 0) = (519 : Int32) then 10 else 12, [.ref 280, UU, UU, UU], [], gm M)) (b := true) rfl rfl ?_
    rw [if_pos h11]
    refine Rc.goL mt_1285 0 (f2 := (11, [.ref 280, UU, UU, UU], [.int (-1 : Int32)], gm M)) (b := true) rfl rfl ?_
    obtain ⟨e1, e2⟩ := some_p hs; subst e1; subst e2
    exact Rc.ret (v := some (.int (-1 : Int32))) rfl rfl
  · rw [if_neg h11] at hs
    refine Rc.goL mt_1285 3 (f2 := (if (M.1 280 0) = (519 : Int32) then 10 else 12, [.ref 280, UU, UU, UU], [], gm M)) (b := true) rfl rfl ?_
    rw [if_neg h11]
    refine Rc.goL mt_1285 3 (f2 := (16, [.ref 280, .int (0 : Int32), .int (0 : Int32), UU], [], gm M)) (b := true) rfl rfl ?_
    refine Rc.less (ls2 := [.ref 280, .int (0 : Int32), .int (0 : Int32), UU]) (by refine ⟨Or.inr rfl, Or.inr rfl, Or.inr rfl, Or.inl rfl, trivial⟩) ?_
    exact qmd_goes_L16_ok d hd _ (0 : Int32) (0 : Int32) _ _ _ hs
def qmd_look (x1 : Int32) (x2 : Int32) (M : SM) : Option (Int32 × SM) :=
  if x1 < 0 then
  (some ((-1 : Int32), M)) else
  (if x1 < (M.1 280 43) then
    (if x2 = (0 : Int32) then
      (ck (ib 300 x1 && true) (
        some ((M.1 310 (Int32.toNatClampNeg x1)), M))) else
      (if x2 = (1 : Int32) then
      (ck (ib 300 x1 && true) (
        some ((M.1 311 (Int32.toNatClampNeg x1)), M))) else
      (if x2 = (2 : Int32) then
      (ck (ib 300 x1 && true) (
        some ((M.1 312 (Int32.toNatClampNeg x1)), M))) else
      (if x2 = (3 : Int32) then
      (ck (ib 300 x1 && true) (
        some ((M.1 313 (Int32.toNatClampNeg x1)), M))) else
      (if x2 = (4 : Int32) then
      (ck (ib 300 x1 && true) (
        some ((M.1 314 (Int32.toNatClampNeg x1)), M))) else
      (if x2 = (5 : Int32) then
      (ck (ib 300 x1 && true) (
        some ((M.1 315 (Int32.toNatClampNeg x1)), M))) else
      (if x2 = (6 : Int32) then
      (ck (ib 300 x1 && true) (
        some ((M.1 316 (Int32.toNatClampNeg x1)), M))) else
      (if x2 = (7 : Int32) then
      (ck (ib 300 x1 && true) (
        some ((M.1 317 (Int32.toNatClampNeg x1)), M))) else
      (some ((-1 : Int32), M)))))))))) else
    (some ((-1 : Int32), M)))
theorem mt_1286 : MT 1286 K_1286 LN_12 := ⟨rfl, rfl, by decide +kernel⟩
theorem okm_1286 : OKm 1286 := ⟨⟨vE_1286, okL_12, by decide +kernel⟩, by decide +kernel, by decide +kernel, by decide +kernel⟩
set_option maxRecDepth 20000 in
theorem qmd_look_ok (d : Nat) (hd : 1 ≤ d) {x1 : Int32} {x2 : Int32} {M : SM} {r : Int32} {Mz : SM} (hs : qmd_look x1 x2 M = some (r, Mz)) : Ex d 1286 [.ref 280, .int x1, .int x2] (gm M) (some (.int r), gm Mz) := by
  obtain ⟨d, rfl⟩ : ∃ d0, d = d0 + 1 := ⟨d - 1, by omega⟩
  refine Ex.of okm_1286 (by omega) (Nat.le_of_ble_eq_true rfl) ?_
  show Rc (d + 1) 1286 (0, [.ref 280, .int x1, .int x2], [], gm M) _
  unfold qmd_look at hs
  by_cases h18 : x1 < 0
  · rw [if_pos h18] at hs
    refine Rc.goL mt_1286 1 (f2 := (if x1 < 0 then 12 else 4, [.ref 280, .int x1, .int x2], [], gm M)) (b := true) rfl rfl ?_
    rw [if_pos h18]
    refine Rc.goL mt_1286 0 (f2 := (13, [.ref 280, .int x1, .int x2], [.int (-1 : Int32)], gm M)) (b := true) rfl rfl ?_
    obtain ⟨e1, e2⟩ := some_p hs; subst e1; subst e2
    exact Rc.ret (v := some (.int (-1 : Int32))) rfl rfl
  · rw [if_neg h18] at hs
    refine Rc.goL mt_1286 1 (f2 := (if x1 < 0 then 12 else 4, [.ref 280, .int x1, .int x2], [], gm M)) (b := true) rfl rfl ?_
    rw [if_neg h18]
    by_cases h17 : x1 < (M.1 280 43)
    · rw [if_pos h17] at hs
      refine Rc.goL mt_1286 3 (f2 := (if x1 < (M.1 280 43) then 14 else 12, [.ref 280, .int x1, .int x2], [], gm M)) (b := true) rfl rfl ?_
      rw [if_pos h17]
      refine Rc.goL mt_1286 1 (f2 := (swl [(0, 60), (1, 67), (2, 74), (3, 81), (4, 88), (5, 95), (6, 102), (7, 109)] 116 x2, [.ref 280, .int x1, .int x2], [], gm M)) (b := true) rfl rfl ?_
      by_cases h2 : x2 = (0 : Int32)
      · rw [if_pos h2] at hs
        rw [show swl [(0, 60), (1, 67), (2, 74), (3, 81), (4, 88), (5, 95), (6, 102), (7, 109)] 116 x2 = 60 by first | (simp only [swl, if_pos h2]; done) | (rw [h2]; decide)]
        obtain ⟨hb1, hs⟩ := ck_some hs
        refine Rc.goL mt_1286 3 (f2 := (66, [.ref 280, .int x1, .int x2], [.int (M.1 310 (Int32.toNatClampNeg x1))], gm M)) (b := (ib 300 x1 && true)) rfl hb1 ?_
        obtain ⟨e1, e2⟩ := some_p hs; subst e1; subst e2
        exact Rc.ret (v := some (.int (M.1 310 (Int32.toNatClampNeg x1)))) rfl rfl
      · rw [if_neg h2] at hs
        by_cases h4 : x2 = (1 : Int32)
        · rw [if_pos h4] at hs
          rw [show swl [(0, 60), (1, 67), (2, 74), (3, 81), (4, 88), (5, 95), (6, 102), (7, 109)] 116 x2 = 67 by first | (simp only [swl, if_pos h4]; done) | (rw [h4]; decide)]
          obtain ⟨hb3, hs⟩ := ck_some hs
          refine Rc.goL mt_1286 3 (f2 := (73, [.ref 280, .int x1, .int x2], [.int (M.1 311 (Int32.toNatClampNeg x1))], gm M)) (b := (ib 300 x1 && true)) rfl hb3 ?_
          obtain ⟨e1, e2⟩ := some_p hs; subst e1; subst e2
          exact Rc.ret (v := some (.int (M.1 311 (Int32.toNatClampNeg x1)))) rfl rfl
        · rw [if_neg h4] at hs
          by_cases h6 : x2 = (2 : Int32)
          · rw [if_pos h6] at hs
            rw [show swl [(0, 60), (1, 67), (2, 74), (3, 81), (4, 88), (5, 95), (6, 102), (7, 109)] 116 x2 = 74 by first | (simp only [swl, if_pos h6]; done) | (rw [h6]; decide)]
            obtain ⟨hb5, hs⟩ := ck_some hs
            refine Rc.goL mt_1286 3 (f2 := (80, [.ref 280, .int x1, .int x2], [.int (M.1 312 (Int32.toNatClampNeg x1))], gm M)) (b := (ib 300 x1 && true)) rfl hb5 ?_
            obtain ⟨e1, e2⟩ := some_p hs; subst e1; subst e2
            exact Rc.ret (v := some (.int (M.1 312 (Int32.toNatClampNeg x1)))) rfl rfl
          · rw [if_neg h6] at hs
            by_cases h8 : x2 = (3 : Int32)
            · rw [if_pos h8] at hs
              rw [show swl [(0, 60), (1, 67), (2, 74), (3, 81), (4, 88), (5, 95), (6, 102), (7, 109)] 116 x2 = 81 by first | (simp only [swl, if_pos h8]; done) | (rw [h8]; decide)]
              obtain ⟨hb7, hs⟩ := ck_some hs
              refine Rc.goL mt_1286 3 (f2 := (87, [.ref 280, .int x1, .int x2], [.int (M.1 313 (Int32.toNatClampNeg x1))], gm M)) (b := (ib 300 x1 && true)) rfl hb7 ?_
              obtain ⟨e1, e2⟩ := some_p hs; subst e1; subst e2
              exact Rc.ret (v := some (.int (M.1 313 (Int32.toNatClampNeg x1)))) rfl rfl
            · rw [if_neg h8] at hs
              by_cases h10 : x2 = (4 : Int32)
              · rw [if_pos h10] at hs
                rw [show swl [(0, 60), (1, 67), (2, 74), (3, 81), (4, 88), (5, 95), (6, 102), (7, 109)] 116 x2 = 88 by first | (simp only [swl, if_pos h10]; done) | (rw [h10]; decide)]
                obtain ⟨hb9, hs⟩ := ck_some hs
                refine Rc.goL mt_1286 3 (f2 := (94, [.ref 280, .int x1, .int x2], [.int (M.1 314 (Int32.toNatClampNeg x1))], gm M)) (b := (ib 300 x1 && true)) rfl hb9 ?_
                obtain ⟨e1, e2⟩ := some_p hs; subst e1; subst e2
                exact Rc.ret (v := some (.int (M.1 314 (Int32.toNatClampNeg x1)))) rfl rfl
              · rw [if_neg h10] at hs
                by_cases h12 : x2 = (5 : Int32)
                · rw [if_pos h12] at hs
                  rw [show swl [(0, 60), (1, 67), (2, 74), (3, 81), (4, 88), (5, 95), (6, 102), (7, 109)] 116 x2 = 95 by first | (simp only [swl, if_pos h12]; done) | (rw [h12]; decide)]
                  obtain ⟨hb11, hs⟩ := ck_some hs
                  refine Rc.goL mt_1286 3 (f2 := (101, [.ref 280, .int x1, .int x2], [.int (M.1 315 (Int32.toNatClampNeg x1))], gm M)) (b := (ib 300 x1 && true)) rfl hb11 ?_
                  obtain ⟨e1, e2⟩ := some_p hs; subst e1; subst e2
                  exact Rc.ret (v := some (.int (M.1 315 (Int32.toNatClampNeg x1)))) rfl rfl
                · rw [if_neg h12] at hs
                  by_cases h14 : x2 = (6 : Int32)
                  · rw [if_pos h14] at hs
                    rw [show swl [(0, 60), (1, 67), (2, 74), (3, 81), (4, 88), (5, 95), (6, 102), (7, 109)] 116 x2 = 102 by first | (simp only [swl, if_pos h14]; done) | (rw [h14]; decide)]
                    obtain ⟨hb13, hs⟩ := ck_some hs
                    refine Rc.goL mt_1286 3 (f2 := (108, [.ref 280, .int x1, .int x2], [.int (M.1 316 (Int32.toNatClampNeg x1))], gm M)) (b := (ib 300 x1 && true)) rfl hb13 ?_
                    obtain ⟨e1, e2⟩ := some_p hs; subst e1; subst e2
                    exact Rc.ret (v := some (.int (M.1 316 (Int32.toNatClampNeg x1)))) rfl rfl
                  · rw [if_neg h14] at hs
                    by_cases h16 : x2 = (7 : Int32)
                    · rw [if_pos h16] at hs
                      rw [show swl [(0, 60), (1, 67), (2, 74), (3, 81), (4, 88), (5, 95), (6, 102), (7, 109)] 116 x2 = 109 by first | (simp only [swl, if_pos h16]; done) | (rw [h16]; decide)]
                      obtain ⟨hb15, hs⟩ := ck_some hs
                      refine Rc.goL mt_1286 3 (f2 := (115, [.ref 280, .int x1, .int x2], [.int (M.1 317 (Int32.toNatClampNeg x1))], gm M)) (b := (ib 300 x1 && true)) rfl hb15 ?_
                      obtain ⟨e1, e2⟩ := some_p hs; subst e1; subst e2
                      exact Rc.ret (v := some (.int (M.1 317 (Int32.toNatClampNeg x1)))) rfl rfl
                    · rw [if_neg h16] at hs
                      rw [show swl [(0, 60), (1, 67), (2, 74), (3, 81), (4, 88), (5, 95), (6, 102), (7, 109)] 116 x2 = 116 by simp only [swl, if_neg h2, if_neg h4, if_neg h6, if_neg h8, if_neg h10, if_neg h12, if_neg h14, if_neg h16]]
                      refine Rc.goL mt_1286 0 (f2 := (117, [.ref 280, .int x1, .int x2], [.int (-1 : Int32)], gm M)) (b := true) rfl rfl ?_
                      obtain ⟨e1, e2⟩ := some_p hs; subst e1; subst e2
                      exact Rc.ret (v := some (.int (-1 : Int32))) rfl rfl
    · rw [if_neg h17] at hs
      refine Rc.goL mt_1286 3 (f2 := (if x1 < (M.1 280 43) then 14 else 12, [.ref 280, .int x1, .int x2], [], gm M)) (b := true) rfl rfl ?_
      rw [if_neg h17]
      refine Rc.goL mt_1286 0 (f2 := (13, [.ref 280, .int x1, .int x2], [.int (-1 : Int32)], gm M)) (b := true) rfl rfl ?_
      obtain ⟨e1, e2⟩ := some_p hs; subst e1; subst e2
      exact Rc.ret (v := some (.int (-1 : Int32))) rfl rfl
