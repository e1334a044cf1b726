def qmd_readsAct (M : SM) : Option (Int32 × SM) :=
  ob (qmd_sign M) (fun r1 M2 =>
  jn (fun (x1_4 : Int32) (M5 : SM) =>
    ck (ib 10 (M5.1 280 28) && true) (
      ob (qmd_sign (wI (wI M5 305 (Int32.toNatClampNeg (M5.1 280 28)) (x1_4 - (65 : Int32))) 280 14 ((M5.1 280 14) + (1 : Int32)))) (fun r7 M8 =>
      jn (fun (M10 : SM) =>
        ob (qmd_sign M10) (fun r11 M12 =>
          jn (fun (t14 : Int32) (M15 : SM) =>
            ck (ib 10 (M10.1 280 28) && true) (
              ob (qmd_readsFormula (wI (wI M15 306 (Int32.toNatClampNeg (M10.1 280 28)) (t14 &&& 1)) 280 14 ((M15.1 280 14) + (1 : Int32)))) (fun r17 M18 =>
              if r17 = 0 then
              (some ((0 : Int32), M18)) else
              (if (M18.1 280 14) = (M18.1 280 15) then
                (some ((1 : Int32), M18)) else
                (ob (qmd_wrong (1 : Int32) (M18.1 280 14) M18) (fun r20 M21 =>
                  if r20 = 0 then
                  (some ((0 : Int32), M21)) else
                  (some ((1 : Int32), M21)))))))) (fun j26 =>
          if r11 = (95 : Int32) then
          (j26 (1 : Int32) M12) else
          (j26 (0 : Int32) M12)))) (fun j28 =>
      if r7 = (95 : Int32) then
      (j28 M8) else
      (ob (qmd_sign M8) (fun r29 M30 =>
        if r29 = (94 : Int32) then
        (j28 M30) else
        (ob (qmd_wrong (1 : Int32) (M30.1 280 14) M30) (fun r32 M33 =>
          ck (decide (r32 = 0) || decide (r32 = 1)) (some (r32, M33)))))))))) (fun j38 =>
  if r1 = (87 : Int32) then
  (j38 r1 M2) else
  (if r1 = (82 : Int32) then
    (j38 r1 M2) else
    (if r1 = (67 : Int32) then
      (j38 r1 M2) else
      (if r1 = (84 : Int32) then
        (j38 r1 M2) else
        (ob (qmd_wrong (1 : Int32) (M2.1 280 14) M2) (fun r39 M40 =>
          ck (decide (r39 = 0) || decide (r39 = 1)) (some (r39, M40)))))))))
theorem mt_1240 : MT 1240 K_1240 LN_12 := ⟨rfl, rfl, by decide +kernel⟩
theorem okm_1240 : OKm 1240 := ⟨⟨vE_1240, okL_12, by decide +kernel⟩, by decide +kernel, by decide +kernel, by decide +kernel⟩
set_option maxRecDepth 20000 in
theorem qmd_readsAct_ok (d : Nat) (hd : 5 ≤ d) {M : SM} {r : Int32} {Mz : SM} (hs : qmd_readsAct M = some (r, Mz)) : Ex d 1240 [.ref 280] (gm M) (some (.int r), gm Mz) := by
  obtain ⟨d, rfl⟩ : ∃ d0, d = d0 + 1 := ⟨d - 1, by omega⟩
  refine Ex.of okm_1240 (by omega) (Nat.le_of_ble_eq_true rfl) ?_
  show Rc (d + 1) 1240 (0, [.ref 280, UU], [], gm M) _
  unfold qmd_readsAct at hs
  refine Rc.goL mt_1240 0 (f2 := (1, [.ref 280, UU], [.ref 280], gm M)) (b := true) rfl rfl ?_
  obtain ⟨r1, M2, he3, hs⟩ := ob_some hs
  refine Rc.callV (i := 253) (mid' := 1215) (av := []) (rest := []) (v := some (.int r1)) (M1 := gm M2) (a := 280) rfl rfl rfl cw_1215 rfl (Nat.le_of_ble_eq_true rfl) rfl (Nat.le_of_ble_eq_true rfl) (qmd_sign_ok _ (by omega) he3) ?_
  refine jn_e (P := fun (j : Int32 → SM → Option (Int32 × SM)) => ∀ (x1_4 : Int32) (M5 : SM) (r : Int32) (Mz : SM), j x1_4 M5 = some (r, Mz) → Rc (d + 1) 1240 (39, [.ref 280, .int x1_4], [], gm M5) (some (.int r), gm Mz)) hs ?_ (fun j38 Hj38 hs => ?_)
  · intro x1_4 M5 r Mz hs
    try dsimp only at hs
    obtain ⟨hb6, hs⟩ := ck_some hs
    obtain ⟨hb6_0, hb6⟩ := and_t hb6
    refine Rc.goL mt_1240 6 (f2 := (51, [.ref 280, .int x1_4], [.int (x1_4 - (65 : Int32)), .int (M5.1 280 28), .ref 305], gm M5)) (b := true) rfl rfl ?_
    refine Rc.goL mt_1240 0 (f2 := (52, [.ref 280, .int x1_4], [], gm (wI M5 305 (Int32.toNatClampNeg (M5.1 280 28)) (x1_4 - (65 : Int32))))) (b := (ib 10 (M5.1 280 28) && true)) rfl (and_i hb6_0 rfl) ?_
    refine Rc.goL mt_1240 5 (f2 := (62, [.ref 280, .int x1_4], [], gm (wI (wI M5 305 (Int32.toNatClampNeg (M5.1 280 28)) (x1_4 - (65 : Int32))) 280 14 ((M5.1 280 14) + (1 : Int32))))) (b := true) rfl rfl ?_
    refine Rc.goL mt_1240 0 (f2 := (63, [.ref 280, .int x1_4], [.ref 280], gm (wI (wI M5 305 (Int32.toNatClampNeg (M5.1 280 28)) (x1_4 - (65 : Int32))) 280 14 ((M5.1 280 14) + (1 : Int32))))) (b := true) rfl rfl ?_
    obtain ⟨r7, M8, he9, hs⟩ := ob_some hs
    refine Rc.callV (i := 253) (mid' := 1215) (av := []) (rest := []) (v := some (.int r7)) (M1 := gm M8) (a := 280) rfl rfl rfl cw_1215 rfl (Nat.le_of_ble_eq_true rfl) rfl (Nat.le_of_ble_eq_true rfl) (qmd_sign_ok _ (by omega) he9) ?_
    refine jn_e (P := fun (j : SM → Option (Int32 × SM)) => ∀ (M10 : SM) (r : Int32) (Mz : SM), j M10 = some (r, Mz) → Rc (d + 1) 1240 (90, [.ref 280, UU], [], gm M10) (some (.int r), gm Mz)) hs ?_ (fun j28 Hj28 hs => ?_)
    · intro  M10 r Mz hs
      try dsimp only at hs
      refine Rc.goL mt_1240 4 (f2 := (99, [.ref 280, UU], [.ref 280, .int (M10.1 280 28), .ref 306], gm M10)) (b := true) rfl rfl ?_
      obtain ⟨r11, M12, he13, hs⟩ := ob_some hs
      refine Rc.callV (i := 253) (mid' := 1215) (av := []) (rest := [.int (M10.1 280 28), .ref 306]) (v := some (.int r11)) (M1 := gm M12) (a := 280) rfl rfl rfl cw_1215 rfl (Nat.le_of_ble_eq_true rfl) rfl (Nat.le_of_ble_eq_true rfl) (qmd_sign_ok _ (by omega) he13) ?_
      refine jn_e (P := fun (j : Int32 → SM → Option (Int32 × SM)) => ∀ (t14 : Int32) (M15 : SM) (r : Int32) (Mz : SM), j t14 M15 = some (r, Mz) → Rc (d + 1) 1240 (112, [.ref 280, UU], [.int t14, .int (M10.1 280 28), .ref 306], gm M15) (some (.int r), gm Mz)) hs ?_ (fun j26 Hj26 hs => ?_)
      · intro t14 M15 r Mz hs
        try dsimp only at hs
        obtain ⟨hb16, hs⟩ := ck_some hs
        obtain ⟨hb16_0, hb16⟩ := and_t hb16
        refine Rc.goL mt_1240 0 (f2 := (113, [.ref 280, UU], [], gm (wI M15 306 (Int32.toNatClampNeg (M10.1 280 28)) (t14 &&& 1)))) (b := (ib 10 (M10.1 280 28) && true)) rfl (and_i hb16_0 rfl) ?_
        refine Rc.goL mt_1240 5 (f2 := (123, [.ref 280, UU], [], gm (wI (wI M15 306 (Int32.toNatClampNeg (M10.1 280 28)) (t14 &&& 1)) 280 14 ((M15.1 280 14) + (1 : Int32))))) (b := true) rfl rfl ?_
        refine Rc.goL mt_1240 0 (f2 := (124, [.ref 280, UU], [.ref 280], gm (wI (wI M15 306 (Int32.toNatClampNeg (M10.1 280 28)) (t14 &&& 1)) 280 14 ((M15.1 280 14) + (1 : Int32))))) (b := true) rfl rfl ?_
        obtain ⟨r17, M18, he19, hs⟩ := ob_some hs
        refine Rc.callV (i := 308) (mid' := 1233) (av := []) (rest := []) (v := some (.int r17)) (M1 := gm M18) (a := 280) rfl rfl rfl cw_1233 rfl (Nat.le_of_ble_eq_true rfl) rfl (Nat.le_of_ble_eq_true rfl) (qmd_readsFormula_ok _ (by omega) he19) ?_
        by_cases h25 : r17 = 0
        · rw [if_pos h25] at hs
          refine Rc.goL mt_1240 0 (f2 := (if r17 = 0 then 130 else 132, [.ref 280, UU], [], gm M18)) (b := true) rfl rfl ?_
          rw [if_pos h25]
          refine Rc.goL mt_1240 0 (f2 := (131, [.ref 280, UU], [.int (0 : Int32)], gm M18)) (b := true) rfl rfl ?_
          obtain ⟨e1, e2⟩ := some_p hs; subst e1; subst e2
          exact Rc.ret (v := some (.int (0 : Int32))) rfl rfl
        · rw [if_neg h25] at hs
          refine Rc.goL mt_1240 0 (f2 := (if r17 = 0 then 130 else 132, [.ref 280, UU], [], gm M18)) (b := true) rfl rfl ?_
          rw [if_neg h25]
          by_cases h24 : (M18.1 280 14) = (M18.1 280 15)
          · rw [if_pos h24] at hs
            refine Rc.goL mt_1240 4 (f2 := (if (M18.1 280 14) = (M18.1 280 15) then 155 else 143, [.ref 280, UU], [], gm M18)) (b := true) rfl rfl ?_
            rw [if_pos h24]
            refine Rc.goL mt_1240 1 (f2 := (160, [.ref 280, UU], [.int (1 : Int32)], gm M18)) (b := true) rfl rfl ?_
            obtain ⟨e1, e2⟩ := some_p hs; subst e1; subst e2
            exact Rc.ret (v := some (.int (1 : Int32))) rfl rfl
          · rw [if_neg h24] at hs
            refine Rc.goL mt_1240 4 (f2 := (if (M18.1 280 14) = (M18.1 280 15) then 155 else 143, [.ref 280, UU], [], gm M18)) (b := true) rfl rfl ?_
            rw [if_neg h24]
            refine Rc.goL mt_1240 3 (f2 := (149, [.ref 280, UU], [.int (M18.1 280 14), .int (1 : Int32), .ref 280], gm M18)) (b := true) rfl rfl ?_
            obtain ⟨r20, M21, he22, hs⟩ := ob_some hs
            refine Rc.callV (i := 259) (mid' := 1216) (av := [.int (1 : Int32), .int (M18.1 280 14)]) (rest := []) (v := some (.int r20)) (M1 := gm M21) (a := 280) rfl rfl rfl cw_1216 rfl (Nat.le_of_ble_eq_true rfl) rfl (Nat.le_of_ble_eq_true rfl) (qmd_wrong_ok _ (by omega) he22) ?_
            by_cases h23 : r20 = 0
            · rw [if_pos h23] at hs
              refine Rc.goL mt_1240 0 (f2 := (if r20 = 0 then 159 else 155, [.ref 280, UU], [], gm M21)) (b := true) rfl rfl ?_
              rw [if_pos h23]
              refine Rc.goL mt_1240 0 (f2 := (160, [.ref 280, UU], [.int (0 : Int32)], gm M21)) (b := true) rfl rfl ?_
              obtain ⟨e1, e2⟩ := some_p hs; subst e1; subst e2
              exact Rc.ret (v := some (.int (0 : Int32))) rfl rfl
            · rw [if_neg h23] at hs
              refine Rc.goL mt_1240 0 (f2 := (if r20 = 0 then 159 else 155, [.ref 280, UU], [], gm M21)) (b := true) rfl rfl ?_
              rw [if_neg h23]
              refine Rc.goL mt_1240 1 (f2 := (160, [.ref 280, UU], [.int (1 : Int32)], gm M21)) (b := true) rfl rfl ?_
              obtain ⟨e1, e2⟩ := some_p hs; subst e1; subst e2
              exact Rc.ret (v := some (.int (1 : Int32))) rfl rfl
      by_cases h27 : r11 = (95 : Int32)
      · rw [if_pos h27] at hs
        refine Rc.goL mt_1240 1 (f2 := (if r11 = (95 : Int32) then 107 else 111, [.ref 280, UU], [.int (M10.1 280 28), .ref 306], gm M12)) (b := true) rfl rfl ?_
        rw [if_pos h27]
        refine Rc.goL mt_1240 1 (f2 := (112, [.ref 280, UU], [.int (1 : Int32), .int (M10.1 280 28), .ref 306], gm M12)) (b := true) rfl rfl ?_
        refine Rc.less (ls2 := [.ref 280, UU]) (by refine ⟨Or.inr rfl, Or.inl rfl, trivial⟩) ?_
        exact Hj26 (1 : Int32) _ _ _ hs
      · rw [if_neg h27] at hs
        refine Rc.goL mt_1240 1 (f2 := (if r11 = (95 : Int32) then 107 else 111, [.ref 280, UU], [.int (M10.1 280 28), .ref 306], gm M12)) (b := true) rfl rfl ?_
        rw [if_neg h27]
        refine Rc.goL mt_1240 0 (f2 := (112, [.ref 280, UU], [.int (0 : Int32), .int (M10.1 280 28), .ref 306], gm M12)) (b := true) rfl rfl ?_
        refine Rc.less (ls2 := [.ref 280, UU]) (by refine ⟨Or.inr rfl, Or.inl rfl, trivial⟩) ?_
        exact Hj26 (0 : Int32) _ _ _ hs
    by_cases h37 : r7 = (95 : Int32)
    · rw [if_pos h37] at hs
      refine Rc.goL mt_1240 1 (f2 := (if r7 = (95 : Int32) then 90 else 71, [.ref 280, .int x1_4], [], gm M8)) (b := true) rfl rfl ?_
      rw [if_pos h37]
      refine Rc.less (ls2 := [.ref 280, UU]) (by refine ⟨Or.inr rfl, Or.inl rfl, trivial⟩) ?_
      exact Hj28 _ _ _ hs
    · rw [if_neg h37] at hs
      refine Rc.goL mt_1240 1 (f2 := (if r7 = (95 : Int32) then 90 else 71, [.ref 280, .int x1_4], [], gm M8)) (b := true) rfl rfl ?_
      rw [if_neg h37]
      refine Rc.goL mt_1240 0 (f2 := (72, [.ref 280, .int x1_4], [.ref 280], gm M8)) (b := true) rfl rfl ?_
      obtain ⟨r29, M30, he31, hs⟩ := ob_some hs
      refine Rc.callV (i := 253) (mid' := 1215) (av := []) (rest := []) (v := some (.int r29)) (M1 := gm M30) (a := 280) rfl rfl rfl cw_1215 rfl (Nat.le_of_ble_eq_true rfl) rfl (Nat.le_of_ble_eq_true rfl) (qmd_sign_ok _ (by omega) he31) ?_
      by_cases h36 : r29 = (94 : Int32)
      · rw [if_pos h36] at hs
        refine Rc.goL mt_1240 1 (f2 := (if r29 = (94 : Int32) then 90 else 80, [.ref 280, .int x1_4], [], gm M30)) (b := true) rfl rfl ?_
        rw [if_pos h36]
        refine Rc.less (ls2 := [.ref 280, UU]) (by refine ⟨Or.inr rfl, Or.inl rfl, trivial⟩) ?_
        exact Hj28 _ _ _ hs
      · rw [if_neg h36] at hs
        refine Rc.goL mt_1240 1 (f2 := (if r29 = (94 : Int32) then 90 else 80, [.ref 280, .int x1_4], [], gm M30)) (b := true) rfl rfl ?_
        rw [if_neg h36]
        refine Rc.goL mt_1240 3 (f2 := (86, [.ref 280, .int x1_4], [.int (M30.1 280 14), .int (1 : Int32), .ref 280], gm M30)) (b := true) rfl rfl ?_
        obtain ⟨r32, M33, he34, hs⟩ := ob_some hs
        refine Rc.callV (i := 259) (mid' := 1216) (av := [.int (1 : Int32), .int (M30.1 280 14)]) (rest := []) (v := some (.int r32)) (M1 := gm M33) (a := 280) rfl rfl rfl cw_1216 rfl (Nat.le_of_ble_eq_true rfl) rfl (Nat.le_of_ble_eq_true rfl) (qmd_wrong_ok _ (by omega) he34) ?_
        obtain ⟨hc35, hs⟩ := ck_some hs
        obtain ⟨e1, e2⟩ := some_p hs; subst e1; subst e2
        exact Rc.ret (v := some (.int r32)) rfl hc35
  by_cases h46 : r1 = (87 : Int32)
  · rw [if_pos h46] at hs
    refine Rc.goL mt_1240 3 (f2 := (if r1 = (87 : Int32) then 39 else 11, [.ref 280, .int r1], [], gm M2)) (b := true) rfl rfl ?_
    rw [if_pos h46]
    refine Rc.less (ls2 := [.ref 280, .int r1]) (by refine ⟨Or.inr rfl, Or.inr rfl, trivial⟩) ?_
    exact Hj38 r1 _ _ _ hs
  · rw [if_neg h46] at hs
    refine Rc.goL mt_1240 3 (f2 := (if r1 = (87 : Int32) then 39 else 11, [.ref 280, .int r1], [], gm M2)) (b := true) rfl rfl ?_
    rw [if_neg h46]
    by_cases h45 : r1 = (82 : Int32)
    · rw [if_pos h45] at hs
      refine Rc.goL mt_1240 2 (f2 := (if r1 = (82 : Int32) then 39 else 17, [.ref 280, .int r1], [], gm M2)) (b := true) rfl rfl ?_
      rw [if_pos h45]
      refine Rc.less (ls2 := [.ref 280, .int r1]) (by refine ⟨Or.inr rfl, Or.inr rfl, trivial⟩) ?_
      exact Hj38 r1 _ _ _ hs
    · rw [if_neg h45] at hs
      refine Rc.goL mt_1240 2 (f2 := (if r1 = (82 : Int32) then 39 else 17, [.ref 280, .int r1], [], gm M2)) (b := true) rfl rfl ?_
      rw [if_neg h45]
      by_cases h44 : r1 = (67 : Int32)
      · rw [if_pos h44] at hs
        refine Rc.goL mt_1240 2 (f2 := (if r1 = (67 : Int32) then 39 else 23, [.ref 280, .int r1], [], gm M2)) (b := true) rfl rfl ?_
        rw [if_pos h44]
        refine Rc.less (ls2 := [.ref 280, .int r1]) (by refine ⟨Or.inr rfl, Or.inr rfl, trivial⟩) ?_
        exact Hj38 r1 _ _ _ hs
      · rw [if_neg h44] at hs
        refine Rc.goL mt_1240 2 (f2 := (if r1 = (67 : Int32) then 39 else 23, [.ref 280, .int r1], [], gm M2)) (b := true) rfl rfl ?_
        rw [if_neg h44]
        by_cases h43 : r1 = (84 : Int32)
        · rw [if_pos h43] at hs
          refine Rc.goL mt_1240 2 (f2 := (if r1 = (84 : Int32) then 39 else 29, [.ref 280, .int r1], [], gm M2)) (b := true) rfl rfl ?_
          rw [if_pos h43]
          refine Rc.less (ls2 := [.ref 280, .int r1]) (by refine ⟨Or.inr rfl, Or.inr rfl, trivial⟩) ?_
          exact Hj38 r1 _ _ _ hs
        · rw [if_neg h43] at hs
          refine Rc.goL mt_1240 2 (f2 := (if r1 = (84 : Int32) then 39 else 29, [.ref 280, .int r1], [], gm M2)) (b := true) rfl rfl ?_
          rw [if_neg h43]
          refine Rc.goL mt_1240 3 (f2 := (35, [.ref 280, .int r1], [.int (M2.1 280 14), .int (1 : Int32), .ref 280], gm M2)) (b := true) rfl rfl ?_
          obtain ⟨r39, M40, he41, hs⟩ := ob_some hs
          refine Rc.callV (i := 259) (mid' := 1216) (av := [.int (1 : Int32), .int (M2.1 280 14)]) (rest := []) (v := some (.int r39)) (M1 := gm M40) (a := 280) rfl rfl rfl cw_1216 rfl (Nat.le_of_ble_eq_true rfl) rfl (Nat.le_of_ble_eq_true rfl) (qmd_wrong_ok _ (by omega) he41) ?_
          obtain ⟨hc42, hs⟩ := ck_some hs
          obtain ⟨e1, e2⟩ := some_p hs; subst e1; subst e2
          exact Rc.ret (v := some (.int r39)) rfl hc42
def qmd_act_L119 : Nat → Int32 → SM → Option (Int32 × SM)
  | 0, _, _ => none
  | n + 1, x5, M =>
    if x5 < (M.1 280 18) then
    (ck (ib 220 x5 && (ib 800 (((80 : Int32) * (M.1 280 28)) + x5) && true)) (
      qmd_act_L119 n (x5 + (1 : Int32)) (wI M 301 (Int32.toNatClampNeg (((80 : Int32) * (M.1 280 28)) + x5)) (M.1 290 (Int32.toNatClampNeg x5))))) else
    (some ((((M.1 280 28) + (1 : Int32)) - (1 : Int32)), (wI M 280 28 ((M.1 280 28) + (1 : Int32)))))
def qmd_act (x1 : Int32) (x2 : Int32) (x3 : Int32) (M : SM) : Option (Int32 × SM) :=
  ob (qmd_isWeek x1 M) (fun r1 M2 =>
  if r1 = 0 then
  (some ((-1 : Int32), M2)) else
  (ob (qmd_in x2 x1 (519 : Int32) M2) (fun r4 M5 =>
    if r4 = 0 then
    (some ((-1 : Int32), M5)) else
    (ob (qmd_in x3 (1 : Int32) (60 : Int32) M5) (fun r7 M8 =>
      if r7 = 0 then
      (some ((-1 : Int32), M8)) else
      (if (M8.1 280 13) < x3 then
        (some ((-1 : Int32), M8)) else
        (if (M8.1 280 28) = (10 : Int32) then
          (some ((-1 : Int32), M8)) else
          (ob (qmd_readsAct (wI (wI (wI M8 280 14 (0 : Int32)) 280 15 x3) 280 18 (0 : Int32))) (fun r10 M11 =>
            if r10 = 0 then
            (some ((M11.1 280 16), (wI M11 280 13 (0 : Int32)))) else
            (ck (ib 10 (M11.1 280 28) && (ib 10 (M11.1 280 28) && (ib 10 (M11.1 280 28) && true))) (
              qmd_act_L119 FU (0 : Int32) (wI (wI (wI (wI M11 280 13 (0 : Int32)) 303 (Int32.toNatClampNeg (M11.1 280 28)) x1) 304 (Int32.toNatClampNeg (M11.1 280 28)) x2) 302 (Int32.toNatClampNeg (M11.1 280 28)) (M11.1 280 18)))))))))))))
theorem mt_1239 : MT 1239 K_1239 LN_12 := ⟨rfl, rfl, by decide +kernel⟩
theorem okm_1239 : OKm 1239 := ⟨⟨vE_1239, okL_12, by decide +kernel⟩, by decide +kernel, by decide +kernel, by decide +kernel⟩
set_option maxRecDepth 20000 in
theorem qmd_act_L119_ok (d : Nat) (hd : 6 ≤ d + 1) : ∀ (n : Nat) (x5 : Int32) (M : SM) (r : Int32) (Mz : SM), qmd_act_L119 n x5 M = some (r, Mz) → Rc (d + 1) 1239 (119, [.ref 280, UU, UU, UU, UU, .int x5], [], gm M) (some (.int r), gm Mz) := by
  intro n
  induction n with
  | zero => intro x5 M r Mz hs; cases hs
  | succ n ih =>
    intro x5 M r Mz hs
    rw [qmd_act_L119] at hs
    by_cases h15 : x5 < (M.1 280 18)
    · rw [if_pos h15] at hs
      refine Rc.goL mt_1239 3 (f2 := (if x5 < (M.1 280 18) then 128 else 156, [.ref 280, UU, UU, UU, UU, .int x5], [], gm M)) (b := true) rfl rfl ?_
      rw [if_pos h15]
      obtain ⟨hb14, hs⟩ := ck_some hs
      obtain ⟨hb14_0, hb14⟩ := and_t hb14
      obtain ⟨hb14_1, hb14⟩ := and_t hb14
      refine Rc.goL mt_1239 6 (f2 := (141, [.ref 280, UU, UU, UU, UU, .int x5], [.int x5, .int ((80 : Int32) * (M.1 280 28)), .ref 301], gm M)) (b := true) rfl rfl ?_
      refine Rc.goL mt_1239 5 (f2 := (150, [.ref 280, UU, UU, UU, UU, .int x5], [], gm (wI M 301 (Int32.toNatClampNeg (((80 : Int32) * (M.1 280 28)) + x5)) (M.1 290 (Int32.toNatClampNeg x5))))) (b := (ib 220 x5 && (ib 800 (((80 : Int32) * (M.1 280 28)) + x5) && true))) rfl (and_i hb14_0 (and_i hb14_1 rfl)) ?_
      refine Rc.goL mt_1239 1 (f2 := (119, [.ref 280, UU, UU, UU, UU, .int (x5 + (1 : Int32))], [], gm (wI M 301 (Int32.toNatClampNeg (((80 : Int32) * (M.1 280 28)) + x5)) (M.1 290 (Int32.toNatClampNeg x5))))) (b := true) rfl rfl ?_
      refine Rc.less (ls2 := [.ref 280, UU, UU, UU, UU, .int (x5 + (1 : Int32))]) (by refine ⟨Or.inr rfl, Or.inl rfl, Or.inl rfl, Or.inl rfl, Or.inl rfl, Or.inr rfl, trivial⟩) ?_
      exact ih (x5 + (1 : Int32)) _ _ _ hs
    · rw [if_neg h15] at hs
      refine Rc.goL mt_1239 3 (f2 := (if x5 < (M.1 280 18) then 128 else 156, [.ref 280, UU, UU, UU, UU, .int x5], [], gm M)) (b := true) rfl rfl ?_
      rw [if_neg h15]
      refine Rc.goL mt_1239 5 (f2 := (166, [.ref 280, UU, UU, UU, UU, .int x5], [], gm (wI M 280 28 ((M.1 280 28) + (1 : Int32))))) (b := true) rfl rfl ?_
      refine Rc.goL mt_1239 3 (f2 := (172, [.ref 280, UU, UU, UU, UU, .int x5], [.int (((M.1 280 28) + (1 : Int32)) - (1 : Int32))], gm (wI M 280 28 ((M.1 280 28) + (1 : Int32))))) (b := true) rfl rfl ?_
      obtain ⟨e1, e2⟩ := some_p hs; subst e1; subst e2
      exact Rc.ret (v := some (.int (((M.1 280 28) + (1 : Int32)) - (1 : Int32)))) rfl rfl
set_option maxRecDepth 20000 in
theorem qmd_act_ok (d : Nat) (hd : 6 ≤ d) {x1 : Int32} {x2 : Int32} {x3 : Int32} {M : SM} {r : Int32} {Mz : SM} (hs : qmd_act x1 x2 x3 M = some (r, Mz)) : Ex d 1239 [.ref 280, .int x1, .int x2, .int x3] (gm M) (some (.int r), gm Mz) := by
  obtain ⟨d, rfl⟩ : ∃ d0, d = d0 + 1 := ⟨d - 1, by omega⟩
  refine Ex.of okm_1239 (by omega) (Nat.le_of_ble_eq_true rfl) ?_
  show Rc (d + 1) 1239 (0, [.ref 280, .int x1, .int x2, .int x3, UU, UU], [], gm M) _
  unfold qmd_act at hs
  refine Rc.goL mt_1239 0 (f2 := (1, [.ref 280, .int x1, .int x2, .int x3, UU, UU], [.int x1], gm M)) (b := true) rfl rfl ?_
  obtain ⟨r1, M2, he3, hs⟩ := ob_some hs
  refine Rc.callS (i := 323) (mid' := 1205) (av := [.int x1]) (rest := []) (v := some (.int r1)) (M1 := gm M2) rfl (Or.inl rfl) rfl cw_1205 rfl (Nat.le_of_ble_eq_true rfl) (qmd_isWeek_ok _ (by omega) he3) ?_
  by_cases h21 : r1 = 0
  · rw [if_pos h21] at hs
    refine Rc.goL mt_1239 0 (f2 := (if r1 = 0 then 45 else 7, [.ref 280, .int x1, .int x2, .int x3, UU, UU], [], gm M2)) (b := true) rfl rfl ?_
    rw [if_pos h21]
    refine Rc.goL mt_1239 0 (f2 := (46, [.ref 280, .int x1, .int x2, .int x3, UU, UU], [.int (-1 : Int32)], gm M2)) (b := true) rfl rfl ?_
    obtain ⟨e1, e2⟩ := some_p hs; subst e1; subst e2
    exact Rc.ret (v := some (.int (-1 : Int32))) rfl rfl
  · rw [if_neg h21] at hs
    refine Rc.goL mt_1239 0 (f2 := (if r1 = 0 then 45 else 7, [.ref 280, .int x1, .int x2, .int x3, UU, UU], [], gm M2)) (b := true) rfl rfl ?_
    rw [if_neg h21]
    refine Rc.goL mt_1239 2 (f2 := (12, [.ref 280, .int x1, .int x2, .int x3, UU, UU], [.int (519 : Int32), .int x1, .int x2], gm M2)) (b := true) rfl rfl ?_
    obtain ⟨r4, M5, he6, hs⟩ := ob_some hs
    refine Rc.callS (i := 195) (mid' := 1201) (av := [.int x2, .int x1, .int (519 : Int32)]) (rest := []) (v := some (.int r4)) (M1 := gm M5) rfl (Or.inl rfl) rfl cw_1201 rfl (Nat.le_of_ble_eq_true rfl) (qmd_in_ok _ (by omega) he6) ?_
    by_cases h20 : r4 = 0
    · rw [if_pos h20] at hs
      refine Rc.goL mt_1239 0 (f2 := (if r4 = 0 then 45 else 18, [.ref 280, .int x1, .int x2, .int x3, UU, UU], [], gm M5)) (b := true) rfl rfl ?_
      rw [if_pos h20]
      refine Rc.goL mt_1239 0 (f2 := (46, [.ref 280, .int x1, .int x2, .int x3, UU, UU], [.int (-1 : Int32)], gm M5)) (b := true) rfl rfl ?_
      obtain ⟨e1, e2⟩ := some_p hs; subst e1; subst e2
      exact Rc.ret (v := some (.int (-1 : Int32))) rfl rfl
    · rw [if_neg h20] at hs
      refine Rc.goL mt_1239 0 (f2 := (if r4 = 0 then 45 else 18, [.ref 280, .int x1, .int x2, .int x3, UU, UU], [], gm M5)) (b := true) rfl rfl ?_
      rw [if_neg h20]
      refine Rc.goL mt_1239 2 (f2 := (22, [.ref 280, .int x1, .int x2, .int x3, UU, UU], [.int (60 : Int32), .int (1 : Int32), .int x3], gm M5)) (b := true) rfl rfl ?_
      obtain ⟨r7, M8, he9, hs⟩ := ob_some hs
      refine Rc.callS (i := 195) (mid' := 1201) (av := [.int x3, .int (1 : Int32), .int (60 : Int32)]) (rest := []) (v := some (.int r7)) (M1 := gm M8) rfl (Or.inl rfl) rfl cw_1201 rfl (Nat.le_of_ble_eq_true rfl) (qmd_in_ok _ (by omega) he9) ?_
      by_cases h19 : r7 = 0
      · rw [if_pos h19] at hs
        refine Rc.goL mt_1239 0 (f2 := (if r7 = 0 then 45 else 28, [.ref 280, .int x1, .int x2, .int x3, UU, UU], [], gm M8)) (b := true) rfl rfl ?_
        rw [if_pos h19]
        refine Rc.goL mt_1239 0 (f2 := (46, [.ref 280, .int x1, .int x2, .int x3, UU, UU], [.int (-1 : Int32)], gm M8)) (b := true) rfl rfl ?_
        obtain ⟨e1, e2⟩ := some_p hs; subst e1; subst e2
        exact Rc.ret (v := some (.int (-1 : Int32))) rfl rfl
      · rw [if_neg h19] at hs
        refine Rc.goL mt_1239 0 (f2 := (if r7 = 0 then 45 else 28, [.ref 280, .int x1, .int x2, .int x3, UU, UU], [], gm M8)) (b := true) rfl rfl ?_
        rw [if_neg h19]
        by_cases h18 : (M8.1 280 13) < x3
        · rw [if_pos h18] at hs
          refine Rc.goL mt_1239 3 (f2 := (if (M8.1 280 13) < x3 then 45 else 36, [.ref 280, .int x1, .int x2, .int x3, UU, UU], [], gm M8)) (b := true) rfl rfl ?_
          rw [if_pos h18]
          refine Rc.goL mt_1239 0 (f2 := (46, [.ref 280, .int x1, .int x2, .int x3, UU, UU], [.int (-1 : Int32)], gm M8)) (b := true) rfl rfl ?_
          obtain ⟨e1, e2⟩ := some_p hs; subst e1; subst e2
          exact Rc.ret (v := some (.int (-1 : Int32))) rfl rfl
        · rw [if_neg h18] at hs
          refine Rc.goL mt_1239 3 (f2 := (if (M8.1 280 13) < x3 then 45 else 36, [.ref 280, .int x1, .int x2, .int x3, UU, UU], [], gm M8)) (b := true) rfl rfl ?_
          rw [if_neg h18]
          by_cases h17 : (M8.1 280 28) = (10 : Int32)
          · rw [if_pos h17] at hs
            refine Rc.goL mt_1239 3 (f2 := (if (M8.1 280 28) = (10 : Int32) then 45 else 47, [.ref 280, .int x1, .int x2, .int x3, UU, UU], [], gm M8)) (b := true) rfl rfl ?_
            rw [if_pos h17]
            refine Rc.goL mt_1239 0 (f2 := (46, [.ref 280, .int x1, .int x2, .int x3, UU, UU], [.int (-1 : Int32)], gm M8)) (b := true) rfl rfl ?_
            obtain ⟨e1, e2⟩ := some_p hs; subst e1; subst e2
            exact Rc.ret (v := some (.int (-1 : Int32))) rfl rfl
          · rw [if_neg h17] at hs
            refine Rc.goL mt_1239 3 (f2 := (if (M8.1 280 28) = (10 : Int32) then 45 else 47, [.ref 280, .int x1, .int x2, .int x3, UU, UU], [], gm M8)) (b := true) rfl rfl ?_
            rw [if_neg h17]
            refine Rc.goL mt_1239 2 (f2 := (52, [.ref 280, .int x1, .int x2, .int x3, UU, UU], [], gm (wI M8 280 14 (0 : Int32)))) (b := true) rfl rfl ?_
            refine Rc.goL mt_1239 2 (f2 := (57, [.ref 280, .int x1, .int x2, .int x3, UU, UU], [], gm (wI (wI M8 280 14 (0 : Int32)) 280 15 x3))) (b := true) rfl rfl ?_
            refine Rc.goL mt_1239 2 (f2 := (62, [.ref 280, .int x1, .int x2, .int x3, UU, UU], [], gm (wI (wI (wI M8 280 14 (0 : Int32)) 280 15 x3) 280 18 (0 : Int32)))) (b := true) rfl rfl ?_
            refine Rc.goL mt_1239 0 (f2 := (63, [.ref 280, .int x1, .int x2, .int x3, UU, UU], [.ref 280], gm (wI (wI (wI M8 280 14 (0 : Int32)) 280 15 x3) 280 18 (0 : Int32)))) (b := true) rfl rfl ?_
            obtain ⟨r10, M11, he12, hs⟩ := ob_some hs
            refine Rc.callV (i := 329) (mid' := 1240) (av := []) (rest := []) (v := some (.int r10)) (M1 := gm M11) (a := 280) rfl rfl rfl cw_1240 rfl (Nat.le_of_ble_eq_true rfl) rfl (Nat.le_of_ble_eq_true rfl) (qmd_readsAct_ok _ (by omega) he12) ?_
            refine Rc.goL mt_1239 3 (f2 := (73, [.ref 280, .int x1, .int x2, .int x3, .int r10, UU], [], gm (wI M11 280 13 (0 : Int32)))) (b := true) rfl rfl ?_
            by_cases h16 : r10 = 0
            · rw [if_pos h16] at hs
              refine Rc.goL mt_1239 1 (f2 := (if r10 = 0 then 78 else 83, [.ref 280, .int x1, .int x2, .int x3, .int r10, UU], [], gm (wI M11 280 13 (0 : Int32)))) (b := true) rfl rfl ?_
              rw [if_pos h16]
              refine Rc.goL mt_1239 1 (f2 := (82, [.ref 280, .int x1, .int x2, .int x3, .int r10, UU], [.int (M11.1 280 16)], gm (wI M11 280 13 (0 : Int32)))) (b := true) rfl rfl ?_
              obtain ⟨e1, e2⟩ := some_p hs; subst e1; subst e2
              exact Rc.ret (v := some (.int (M11.1 280 16))) rfl rfl
            · rw [if_neg h16] at hs
              refine Rc.goL mt_1239 1 (f2 := (if r10 = 0 then 78 else 83, [.ref 280, .int x1, .int x2, .int x3, .int r10, UU], [], gm (wI M11 280 13 (0 : Int32)))) (b := true) rfl rfl ?_
              rw [if_neg h16]
              obtain ⟨hb13, hs⟩ := ck_some hs
              obtain ⟨hb13_0, hb13⟩ := and_t hb13
              obtain ⟨hb13_1, hb13⟩ := and_t hb13
              obtain ⟨hb13_2, hb13⟩ := and_t hb13
              refine Rc.goL mt_1239 5 (f2 := (93, [.ref 280, .int x1, .int x2, .int x3, .int r10, UU], [], gm (wI (wI M11 280 13 (0 : Int32)) 303 (Int32.toNatClampNeg (M11.1 280 28)) x1))) (b := (ib 10 (M11.1 280 28) && true)) rfl (and_i hb13_0 rfl) ?_
              refine Rc.goL mt_1239 5 (f2 := (103, [.ref 280, .int x1, .int x2, .int x3, .int r10, UU], [], gm (wI (wI (wI M11 280 13 (0 : Int32)) 303 (Int32.toNatClampNeg (M11.1 280 28)) x1) 304 (Int32.toNatClampNeg (M11.1 280 28)) x2))) (b := (ib 10 (M11.1 280 28) && true)) rfl (and_i hb13_1 rfl) ?_
              refine Rc.goL mt_1239 6 (f2 := (116, [.ref 280, .int x1, .int x2, .int x3, .int r10, UU], [], gm (wI (wI (wI (wI M11 280 13 (0 : Int32)) 303 (Int32.toNatClampNeg (M11.1 280 28)) x1) 304 (Int32.toNatClampNeg (M11.1 280 28)) x2) 302 (Int32.toNatClampNeg (M11.1 280 28)) (M11.1 280 18)))) (b := (ib 10 (M11.1 280 28) && true)) rfl (and_i hb13_2 rfl) ?_
              refine Rc.goL mt_1239 1 (f2 := (119, [.ref 280, .int x1, .int x2, .int x3, .int r10, .int (0 : Int32)], [], gm (wI (wI (wI (wI M11 280 13 (0 : Int32)) 303 (Int32.toNatClampNeg (M11.1 280 28)) x1) 304 (Int32.toNatClampNeg (M11.1 280 28)) x2) 302 (Int32.toNatClampNeg (M11.1 280 28)) (M11.1 280 18)))) (b := true) rfl rfl ?_
              refine Rc.less (ls2 := [.ref 280, UU, UU, UU, UU, .int (0 : Int32)]) (by refine ⟨Or.inr rfl, Or.inl rfl, Or.inl rfl, Or.inl rfl, Or.inl rfl, Or.inr rfl, trivial⟩) ?_
              exact qmd_act_L119_ok d hd _ (0 : Int32) _ _ _ hs
def qmd_reckon (x0 : Int32) (x1 : Int64) (x3 : Int64) (M : SM) : Option (Int64 × SM) :=
  if x0 = (3 : Int32) then
  (some ((x1 + x3), M)) else
  (if x0 = (4 : Int32) then
  (some ((x1 - x3), M)) else
  (if x0 = (5 : Int32) then
  (some ((x1 * x3), M)) else
  (if x0 = (6 : Int32) then
  (if (lg_cmp x3 (0 : Int64)) = 0 then
    (some ((0 : Int64), M)) else
    (ck (decide (¬ x3 = 0) && true) (
      some ((x1 / x3), M)))) else
  (if x0 = (7 : Int32) then
  (if (lg_cmp x3 (0 : Int64)) = 0 then
    (some ((0 : Int64), M)) else
    (ck (decide (¬ x3 = 0) && true) (
      some ((x1 - x1 / x3 * x3), M)))) else
  (if x0 = (8 : Int32) then
  (if (lg_cmp x1 x3) < 0 then
    (some (x1, M)) else
    (some (x3, M))) else
  (if x0 = (9 : Int32) then
  (if 0 < (lg_cmp x1 x3) then
    (some (x1, M)) else
    (some (x3, M))) else
  (if x0 = (10 : Int32) then
  (if (lg_cmp x1 x3) < 0 then
    (some ((1 : Int64), M)) else
    (some ((0 : Int64), M))) else
  (if x0 = (11 : Int32) then
  (if 0 < (lg_cmp x1 x3) then
    (some ((1 : Int64), M)) else
    (some ((0 : Int64), M))) else
  (if (lg_cmp x1 x3) = 0 then
    (some ((1 : Int64), M)) else
    (some ((0 : Int64), M)))))))))))
theorem mt_1241 : MT 1241 K_1241 LN_12 := ⟨rfl, rfl, by decide +kernel⟩
theorem okm_1241 : OKm 1241 := ⟨⟨vE_1241, okL_12, by decide +kernel⟩, by decide +kernel, by decide +kernel, by decide +kernel⟩
set_option maxRecDepth 20000 in
theorem qmd_reckon_ok (d : Nat) (hd : 1 ≤ d) {x0 : Int32} {x1 : Int64} {x3 : Int64} {M : SM} {r : Int64} {Mz : SM} (hs : qmd_reckon x0 x1 x3 M = some (r, Mz)) : Ex d 1241 [.int x0, .long x1, .long x3] (gm M) (some (.long r), gm Mz) := by
  obtain ⟨d, rfl⟩ : ∃ d0, d = d0 + 1 := ⟨d - 1, by omega⟩
  refine Ex.of okm_1241 (by omega) (Nat.le_of_ble_eq_true rfl) ?_
  show Rc (d + 1) 1241 (0, [.int x0, .long x1, UU, .long x3, UU], [], gm M) _
  unfold qmd_reckon at hs
  refine Rc.goL mt_1241 1 (f2 := (swl [(3, 52), (4, 56), (5, 60), (6, 64), (7, 78), (8, 92), (9, 104), (10, 116), (11, 128)] 140 x0, [.int x0, .long x1, UU, .long x3, UU], [], gm M)) (b := true) rfl rfl ?_
  by_cases h1 : x0 = (3 : Int32)
  · rw [if_pos h1] at hs
    rw [show swl [(3, 52), (4, 56), (5, 60), (6, 64), (7, 78), (8, 92), (9, 104), (10, 116), (11, 128)] 140 x0 = 52 by first | (simp only [swl, if_pos h1]; done) | (rw [h1]; decide)]
    refine Rc.goL mt_1241 2 (f2 := (55, [.int x0, .long x1, UU, .long x3, UU], [.long (x1 + x3)], gm M)) (b := true) rfl rfl ?_
    obtain ⟨e1, e2⟩ := some_p hs; subst e1; subst e2
    exact Rc.ret (v := some (.long (x1 + x3))) rfl rfl
  · rw [if_neg h1] at hs
    by_cases h2 : x0 = (4 : Int32)
    · rw [if_pos h2] at hs
      rw [show swl [(3, 52), (4, 56), (5, 60), (6, 64), (7, 78), (8, 92), (9, 104), (10, 116), (11, 128)] 140 x0 = 56 by first | (simp only [swl, if_pos h2]; done) | (rw [h2]; decide)]
      refine Rc.goL mt_1241 2 (f2 := (59, [.int x0, .long x1, UU, .long x3, UU], [.long (x1 - x3)], gm M)) (b := true) rfl rfl ?_
      obtain ⟨e1, e2⟩ := some_p hs; subst e1; subst e2
      exact Rc.ret (v := some (.long (x1 - x3))) rfl rfl
    · rw [if_neg h2] at hs
      by_cases h3 : x0 = (5 : Int32)
      · rw [if_pos h3] at hs
        rw [show swl [(3, 52), (4, 56), (5, 60), (6, 64), (7, 78), (8, 92), (9, 104), (10, 116), (11, 128)] 140 x0 = 60 by first | (simp only [swl, if_pos h3]; done) | (rw [h3]; decide)]
        refine Rc.goL mt_1241 2 (f2 := (63, [.int x0, .long x1, UU, .long x3, UU], [.long (x1 * x3)], gm M)) (b := true) rfl rfl ?_
        obtain ⟨e1, e2⟩ := some_p hs; subst e1; subst e2
        exact Rc.ret (v := some (.long (x1 * x3))) rfl rfl
      · rw [if_neg h3] at hs
        by_cases h6 : x0 = (6 : Int32)
        · rw [if_pos h6] at hs
          rw [show swl [(3, 52), (4, 56), (5, 60), (6, 64), (7, 78), (8, 92), (9, 104), (10, 116), (11, 128)] 140 x0 = 64 by first | (simp only [swl, if_pos h6]; done) | (rw [h6]; decide)]
          by_cases h5 : (lg_cmp x3 (0 : Int64)) = 0
          · rw [if_pos h5] at hs
            refine Rc.goL mt_1241 3 (f2 := (if (lg_cmp x3 (0 : Int64)) = 0 then 70 else 74, [.int x0, .long x1, UU, .long x3, UU], [], gm M)) (b := true) rfl rfl ?_
            rw [if_pos h5]
            refine Rc.goL mt_1241 1 (f2 := (77, [.int x0, .long x1, UU, .long x3, UU], [.long (0 : Int64)], gm M)) (b := true) rfl rfl ?_
            obtain ⟨e1, e2⟩ := some_p hs; subst e1; subst e2
            exact Rc.ret (v := some (.long (0 : Int64))) rfl rfl
          · rw [if_neg h5] at hs
            refine Rc.goL mt_1241 3 (f2 := (if (lg_cmp x3 (0 : Int64)) = 0 then 70 else 74, [.int x0, .long x1, UU, .long x3, UU], [], gm M)) (b := true) rfl rfl ?_
            rw [if_neg h5]
            obtain ⟨hb4, hs⟩ := ck_some hs
            refine Rc.goL mt_1241 2 (f2 := (77, [.int x0, .long x1, UU, .long x3, UU], [.long (x1 / x3)], gm M)) (b := (decide (¬ x3 = 0) && true)) rfl hb4 ?_
            obtain ⟨e1, e2⟩ := some_p hs; subst e1; subst e2
            exact Rc.ret (v := some (.long (x1 / x3))) rfl rfl
        · rw [if_neg h6] at hs
          by_cases h9 : x0 = (7 : Int32)
          · rw [if_pos h9] at hs
            rw [show swl [(3, 52), (4, 56), (5, 60), (6, 64), (7, 78), (8, 92), (9, 104), (10, 116), (11, 128)] 140 x0 = 78 by first | (simp only [swl, if_pos h9]; done) | (rw [h9]; decide)]
            by_cases h8 : (lg_cmp x3 (0 : Int64)) = 0
            · rw [if_pos h8] at hs
              refine Rc.goL mt_1241 3 (f2 := (if (lg_cmp x3 (0 : Int64)) = 0 then 84 else 88, [.int x0, .long x1, UU, .long x3, UU], [], gm M)) (b := true) rfl rfl ?_
              rw [if_pos h8]
              refine Rc.goL mt_1241 1 (f2 := (91, [.int x0, .long x1, UU, .long x3, UU], [.long (0 : Int64)], gm M)) (b := true) rfl rfl ?_
              obtain ⟨e1, e2⟩ := some_p hs; subst e1; subst e2
              exact Rc.ret (v := some (.long (0 : Int64))) rfl rfl
            · rw [if_neg h8] at hs
              refine Rc.goL mt_1241 3 (f2 := (if (lg_cmp x3 (0 : Int64)) = 0 then 84 else 88, [.int x0, .long x1, UU, .long x3, UU], [], gm M)) (b := true) rfl rfl ?_
              rw [if_neg h8]
              obtain ⟨hb7, hs⟩ := ck_some hs
              refine Rc.goL mt_1241 2 (f2 := (91, [.int x0, .long x1, UU, .long x3, UU], [.long (x1 - x1 / x3 * x3)], gm M)) (b := (decide (¬ x3 = 0) && true)) rfl hb7 ?_
              obtain ⟨e1, e2⟩ := some_p hs; subst e1; subst e2
              exact Rc.ret (v := some (.long (x1 - x1 / x3 * x3))) rfl rfl
          · rw [if_neg h9] at hs
            by_cases h11 : x0 = (8 : Int32)
            · rw [if_pos h11] at hs
              rw [show swl [(3, 52), (4, 56), (5, 60), (6, 64), (7, 78), (8, 92), (9, 104), (10, 116), (11, 128)] 140 x0 = 92 by first | (simp only [swl, if_pos h11]; done) | (rw [h11]; decide)]
              by_cases h10 : (lg_cmp x1 x3) < 0
              · rw [if_pos h10] at hs
                refine Rc.goL mt_1241 3 (f2 := (if (lg_cmp x1 x3) < 0 then 98 else 102, [.int x0, .long x1, UU, .long x3, UU], [], gm M)) (b := true) rfl rfl ?_
                rw [if_pos h10]
                refine Rc.goL mt_1241 1 (f2 := (103, [.int x0, .long x1, UU, .long x3, UU], [.long x1], gm M)) (b := true) rfl rfl ?_
                obtain ⟨e1, e2⟩ := some_p hs; subst e1; subst e2
                exact Rc.ret (v := some (.long x1)) rfl rfl
              · rw [if_neg h10] at hs
                refine Rc.goL mt_1241 3 (f2 := (if (lg_cmp x1 x3) < 0 then 98 else 102, [.int x0, .long x1, UU, .long x3, UU], [], gm M)) (b := true) rfl rfl ?_
                rw [if_neg h10]
                refine Rc.goL mt_1241 0 (f2 := (103, [.int x0, .long x1, UU, .long x3, UU], [.long x3], gm M)) (b := true) rfl rfl ?_
                obtain ⟨e1, e2⟩ := some_p hs; subst e1; subst e2
                exact Rc.ret (v := some (.long x3)) rfl rfl
            · rw [if_neg h11] at hs
              by_cases h13 : x0 = (9 : Int32)
              · rw [if_pos h13] at hs
                rw [show swl [(3, 52), (4, 56), (5, 60), (6, 64), (7, 78), (8, 92), (9, 104), (10, 116), (11, 128)] 140 x0 = 104 by first | (simp only [swl, if_pos h13]; done) | (rw [h13]; decide)]
                by_cases h12 : 0 < (lg_cmp x1 x3)
                · rw [if_pos h12] at hs
                  refine Rc.goL mt_1241 3 (f2 := (if 0 < (lg_cmp x1 x3) then 110 else 114, [.int x0, .long x1, UU, .long x3, UU], [], gm M)) (b := true) rfl rfl ?_
                  rw [if_pos h12]
                  refine Rc.goL mt_1241 1 (f2 := (115, [.int x0, .long x1, UU, .long x3, UU], [.long x1], gm M)) (b := true) rfl rfl ?_
                  obtain ⟨e1, e2⟩ := some_p hs; subst e1; subst e2
                  exact Rc.ret (v := some (.long x1)) rfl rfl
                · rw [if_neg h12] at hs
                  refine Rc.goL mt_1241 3 (f2 := (if 0 < (lg_cmp x1 x3) then 110 else 114, [.int x0, .long x1, UU, .long x3, UU], [], gm M)) (b := true) rfl rfl ?_
                  rw [if_neg h12]
                  refine Rc.goL mt_1241 0 (f2 := (115, [.int x0, .long x1, UU, .long x3, UU], [.long x3], gm M)) (b := true) rfl rfl ?_
                  obtain ⟨e1, e2⟩ := some_p hs; subst e1; subst e2
                  exact Rc.ret (v := some (.long x3)) rfl rfl
              · rw [if_neg h13] at hs
                by_cases h15 : x0 = (10 : Int32)
                · rw [if_pos h15] at hs
                  rw [show swl [(3, 52), (4, 56), (5, 60), (6, 64), (7, 78), (8, 92), (9, 104), (10, 116), (11, 128)] 140 x0 = 116 by first | (simp only [swl, if_pos h15]; done) | (rw [h15]; decide)]
                  by_cases h14 : (lg_cmp x1 x3) < 0
                  · rw [if_pos h14] at hs
                    refine Rc.goL mt_1241 3 (f2 := (if (lg_cmp x1 x3) < 0 then 122 else 126, [.int x0, .long x1, UU, .long x3, UU], [], gm M)) (b := true) rfl rfl ?_
                    rw [if_pos h14]
                    refine Rc.goL mt_1241 1 (f2 := (127, [.int x0, .long x1, UU, .long x3, UU], [.long (1 : Int64)], gm M)) (b := true) rfl rfl ?_
                    obtain ⟨e1, e2⟩ := some_p hs; subst e1; subst e2
                    exact Rc.ret (v := some (.long (1 : Int64))) rfl rfl
                  · rw [if_neg h14] at hs
                    refine Rc.goL mt_1241 3 (f2 := (if (lg_cmp x1 x3) < 0 then 122 else 126, [.int x0, .long x1, UU, .long x3, UU], [], gm M)) (b := true) rfl rfl ?_
                    rw [if_neg h14]
                    refine Rc.goL mt_1241 0 (f2 := (127, [.int x0, .long x1, UU, .long x3, UU], [.long (0 : Int64)], gm M)) (b := true) rfl rfl ?_
                    obtain ⟨e1, e2⟩ := some_p hs; subst e1; subst e2
                    exact Rc.ret (v := some (.long (0 : Int64))) rfl rfl
                · rw [if_neg h15] at hs
                  by_cases h17 : x0 = (11 : Int32)
                  · rw [if_pos h17] at hs
                    rw [show swl [(3, 52), (4, 56), (5, 60), (6, 64), (7, 78), (8, 92), (9, 104), (10, 116), (11, 128)] 140 x0 = 128 by first | (simp only [swl, if_pos h17]; done) | (rw [h17]; decide)]
                    by_cases h16 : 0 < (lg_cmp x1 x3)
                    · rw [if_pos h16] at hs
                      refine Rc.goL mt_1241 3 (f2 := (if 0 < (lg_cmp x1 x3) then 134 else 138, [.int x0, .long x1, UU, .long x3, UU], [], gm M)) (b := true) rfl rfl ?_
                      rw [if_pos h16]
                      refine Rc.goL mt_1241 1 (f2 := (139, [.int x0, .long x1, UU, .long x3, UU], [.long (1 : Int64)], gm M)) (b := true) rfl rfl ?_
                      obtain ⟨e1, e2⟩ := some_p hs; subst e1; subst e2
                      exact Rc.ret (v := some (.long (1 : Int64))) rfl rfl
                    · rw [if_neg h16] at hs
                      refine Rc.goL mt_1241 3 (f2 := (if 0 < (lg_cmp x1 x3) then 134 else 138, [.int x0, .long x1, UU, .long x3, UU], [], gm M)) (b := true) rfl rfl ?_
                      rw [if_neg h16]
                      refine Rc.goL mt_1241 0 (f2 := (139, [.int x0, .long x1, UU, .long x3, UU], [.long (0 : Int64)], gm M)) (b := true) rfl rfl ?_
                      obtain ⟨e1, e2⟩ := some_p hs; subst e1; subst e2
                      exact Rc.ret (v := some (.long (0 : Int64))) rfl rfl
                  · rw [if_neg h17] at hs
                    rw [show swl [(3, 52), (4, 56), (5, 60), (6, 64), (7, 78), (8, 92), (9, 104), (10, 116), (11, 128)] 140 x0 = 140 by simp only [swl, if_neg h1, if_neg h2, if_neg h3, if_neg h6, if_neg h9, if_neg h11, if_neg h13, if_neg h15, if_neg h17]]
                    by_cases h18 : (lg_cmp x1 x3) = 0
                    · rw [if_pos h18] at hs
                      refine Rc.goL mt_1241 3 (f2 := (if (lg_cmp x1 x3) = 0 then 146 else 150, [.int x0, .long x1, UU, .long x3, UU], [], gm M)) (b := true) rfl rfl ?_
                      rw [if_pos h18]
                      refine Rc.goL mt_1241 1 (f2 := (151, [.int x0, .long x1, UU, .long x3, UU], [.long (1 : Int64)], gm M)) (b := true) rfl rfl ?_
                      obtain ⟨e1, e2⟩ := some_p hs; subst e1; subst e2
                      exact Rc.ret (v := some (.long (1 : Int64))) rfl rfl
                    · rw [if_neg h18] at hs
                      refine Rc.goL mt_1241 3 (f2 := (if (lg_cmp x1 x3) = 0 then 146 else 150, [.int x0, .long x1, UU, .long x3, UU], [], gm M)) (b := true) rfl rfl ?_
                      rw [if_neg h18]
                      refine Rc.goL mt_1241 0 (f2 := (151, [.int x0, .long x1, UU, .long x3, UU], [.long (0 : Int64)], gm M)) (b := true) rfl rfl ?_
                      obtain ⟨e1, e2⟩ := some_p hs; subst e1; subst e2
                      exact Rc.ret (v := some (.long (0 : Int64))) rfl rfl
def qmd_worthOf_L8 : Nat → Nat → Int32 → Int32 → Int32 → Int32 → SM → Option (Int64 × SM)
  | 0, _, _, _, _, _, _ => none
  | n + 1, x1, x2, x4, x5, x6, M =>
    if x6 < (x2 + x4) then
    (ck (av 336 20 x1 x6 && true) (
      lt ((M.1 x1 (Int32.toNatClampNeg x6)) / (1048576 : Int32)) (fun (z2 : Int32) =>
      ck (av 336 20 x1 x6 && true) (
      lt ((M.1 x1 (Int32.toNatClampNeg x6)) - (M.1 x1 (Int32.toNatClampNeg x6)) / (1048576 : Int32) * (1048576 : Int32)) (fun (z4 : Int32) =>
      if (2 : Int32) < z2 then
      (if z2 = (14 : Int32) then
        (qmd_worthOf_L8 n x1 x2 x4 x5 (x2 + z4) M) else
        (if z2 = (13 : Int32) then
          (ck (ib 220 (x5 - (1 : Int32)) && true) (
            if (lg_cmp (M.2 309 (Int32.toNatClampNeg (x5 - (1 : Int32)))) (0 : Int64)) = 0 then
            (qmd_worthOf_L8 n x1 x2 x4 (x5 - (1 : Int32)) (x2 + z4) M) else
            (qmd_worthOf_L8 n x1 x2 x4 (x5 - (1 : Int32)) (x6 + (1 : Int32)) M))) else
          (ck (ib 220 ((x5 - (1 : Int32)) - (1 : Int32)) && (ib 220 (x5 - (1 : Int32)) && true)) (
            ob (qmd_reckon z2 (M.2 309 (Int32.toNatClampNeg ((x5 - (1 : Int32)) - (1 : Int32)))) (M.2 309 (Int32.toNatClampNeg (x5 - (1 : Int32)))) M) (fun r8 M9 =>
            ck (ib 220 ((x5 - (1 : Int32)) - (1 : Int32)) && true) (
            qmd_worthOf_L8 n x1 x2 x4 (x5 - (1 : Int32)) (x6 + (1 : Int32)) (wL M9 309 (Int32.toNatClampNeg ((x5 - (1 : Int32)) - (1 : Int32))) r8))))))) else
      (if z2 = 0 then
        (ck (ib 220 x5 && true) (
          qmd_worthOf_L8 n x1 x2 x4 (x5 + (1 : Int32)) (x6 + (1 : Int32)) (wL M 309 (Int32.toNatClampNeg x5) (Int32.toInt64 z4)))) else
        (if z2 = (1 : Int32) then
          (ck (ib 26 z4 && true) (
            ck (ib 220 x5 && true) (
            qmd_worthOf_L8 n x1 x2 x4 (x5 + (1 : Int32)) (x6 + (1 : Int32)) (wL M 309 (Int32.toNatClampNeg x5) (M.2 308 (Int32.toNatClampNeg z4)))))) else
          (ck (ib 10 z4 && true) (
            ck (ib 220 x5 && true) (
            qmd_worthOf_L8 n x1 x2 x4 (x5 + (1 : Int32)) (x6 + (1 : Int32)) (wL M 309 (Int32.toNatClampNeg x5) (M.2 307 (Int32.toNatClampNeg z4))))))))))))) else
    (ck (ib 220 (0 : Int32) && true) (
      some ((M.2 309 (Int32.toNatClampNeg (0 : Int32))), M)))
def qmd_worthOf (x1 : Nat) (x2 : Int32) (x3 : Int32) (x4 : Int32) (M : SM) : Option (Int64 × SM) :=
  qmd_worthOf_L8 FU x1 x2 x4 (0 : Int32) (x2 + x3) M
theorem mt_1242 : MT 1242 K_1242 LN_12 := ⟨rfl, rfl, by decide +kernel⟩
theorem okm_1242 : OKm 1242 := ⟨⟨vE_1242, okL_12, by decide +kernel⟩, by decide +kernel, by decide +kernel, by decide +kernel⟩
set_option maxRecDepth 20000 in
theorem qmd_worthOf_L8_ok (d : Nat) (hd : 2 ≤ d + 1) : ∀ (n : Nat) (x1 : Nat) (x2 : Int32) (x4 : Int32) (x5 : Int32) (x6 : Int32) (M : SM) (r : Int64) (Mz : SM), qmd_worthOf_L8 n x1 x2 x4 x5 x6 M = some (r, Mz) → Rc (d + 1) 1242 (8, [.ref 280, .ref x1, .int x2, UU, .int x4, .int x5, .int x6, UU, UU], [], gm M) (some (.long r), gm Mz) := by
  intro n
  induction n with
  | zero => intro x1 x2 x4 x5 x6 M r Mz hs; cases hs
  | succ n ih =>
    intro x1 x2 x4 x5 x6 M r Mz hs
    rw [qmd_worthOf_L8] at hs
    by_cases h23 : x6 < (x2 + x4)
    · rw [if_pos h23] at hs
      refine Rc.goL mt_1242 4 (f2 := (if x6 < (x2 + x4) then 17 else 186, [.ref 280, .ref x1, .int x2, UU, .int x4, .int x5, .int x6, UU, UU], [], gm M)) (b := true) rfl rfl ?_
      rw [if_pos h23]
      obtain ⟨hb1, hs⟩ := ck_some hs
      refine lt_g hs (fun z2 Hz2 hs => ?_)
      refine Rc.goL mt_1242 5 (f2 := (26, [.ref 280, .ref x1, .int x2, UU, .int x4, .int x5, .int x6, .int z2, UU], [], gm M)) (b := (av 336 20 x1 x6 && true)) (by subst Hz2; rfl) hb1 ?_
      obtain ⟨hb3, hs⟩ := ck_some hs
      refine lt_g hs (fun z4 Hz4 hs => ?_)
      refine Rc.goL mt_1242 5 (f2 := (35, [.ref 280, .ref x1, .int x2, UU, .int x4, .int x5, .int x6, .int z2, .int z4], [], gm M)) (b := (av 336 20 x1 x6 && true)) (by subst Hz4; rfl) hb3 ?_
      by_cases h21 : (2 : Int32) < z2
      · rw [if_pos h21] at hs
        refine Rc.goL mt_1242 6 (f2 := (if (2 : Int32) < z2 then 97 else 47, [.ref 280, .ref x1, .int x2, UU, .int x4, .int x5, .int (x6 + (1 : Int32)), .int z2, .int z4], [], gm M)) (b := true) rfl rfl ?_
        rw [if_pos h21]
        by_cases h13 : z2 = (14 : Int32)
        · rw [if_pos h13] at hs
          refine Rc.goL mt_1242 2 (f2 := (if z2 = (14 : Int32) then 104 else 113, [.ref 280, .ref x1, .int x2, UU, .int x4, .int x5, .int (x6 + (1 : Int32)), .int z2, .int z4], [], gm M)) (b := true) rfl rfl ?_
          rw [if_pos h13]
          refine Rc.goL mt_1242 4 (f2 := (183, [.ref 280, .ref x1, .int x2, UU, .int x4, .int x5, .int (x2 + z4), .int z2, .int z4], [], gm M)) (b := true) rfl rfl ?_
          refine Rc.goL mt_1242 0 (f2 := (8, [.ref 280, .ref x1, .int x2, UU, .int x4, .int x5, .int (x2 + z4), .int z2, .int z4], [], gm M)) (b := true) rfl rfl ?_
          refine Rc.less (ls2 := [.ref 280, .ref x1, .int x2, UU, .int x4, .int x5, .int (x2 + z4), UU, UU]) (by refine ⟨Or.inr rfl, Or.inr rfl, Or.inr rfl, Or.inl rfl, Or.inr rfl, Or.inr rfl, Or.inr rfl, Or.inl rfl, Or.inl rfl, trivial⟩) ?_
          exact ih x1 x2 x4 x5 (x2 + z4) _ _ _ hs
        · rw [if_neg h13] at hs
          refine Rc.goL mt_1242 2 (f2 := (if z2 = (14 : Int32) then 104 else 113, [.ref 280, .ref x1, .int x2, UU, .int x4, .int x5, .int (x6 + (1 : Int32)), .int z2, .int z4], [], gm M)) (b := true) rfl rfl ?_
          rw [if_neg h13]
          by_cases h12 : z2 = (13 : Int32)
          · rw [if_pos h12] at hs
            refine Rc.goL mt_1242 2 (f2 := (if z2 = (13 : Int32) then 120 else 147, [.ref 280, .ref x1, .int x2, UU, .int x4, .int x5, .int (x6 + (1 : Int32)), .int z2, .int z4], [], gm M)) (b := true) rfl rfl ?_
            rw [if_pos h12]
            obtain ⟨hb5, hs⟩ := ck_some hs
            obtain ⟨hb5_0, hb5⟩ := and_t hb5
            refine Rc.goL mt_1242 6 (f2 := (132, [.ref 280, .ref x1, .int x2, UU, .int x4, .int (x5 - (1 : Int32)), .int (x6 + (1 : Int32)), .int z2, .int z4], [.int (x5 - (1 : Int32)), .ref 309], gm M)) (b := true) rfl rfl ?_
            by_cases h6 : (lg_cmp (M.2 309 (Int32.toNatClampNeg (x5 - (1 : Int32)))) (0 : Int64)) = 0
            · rw [if_pos h6] at hs
              refine Rc.goL mt_1242 3 (f2 := (if (lg_cmp (M.2 309 (Int32.toNatClampNeg (x5 - (1 : Int32)))) (0 : Int64)) = 0 then 138 else 183, [.ref 280, .ref x1, .int x2, UU, .int x4, .int (x5 - (1 : Int32)), .int (x6 + (1 : Int32)), .int z2, .int z4], [], gm M)) (b := (ib 220 (x5 - (1 : Int32)) && true)) rfl (and_i hb5_0 rfl) ?_
              rw [if_pos h6]
              refine Rc.goL mt_1242 4 (f2 := (183, [.ref 280, .ref x1, .int x2, UU, .int x4, .int (x5 - (1 : Int32)), .int (x2 + z4), .int z2, .int z4], [], gm M)) (b := true) rfl rfl ?_
              refine Rc.goL mt_1242 0 (f2 := (8, [.ref 280, .ref x1, .int x2, UU, .int x4, .int (x5 - (1 : Int32)), .int (x2 + z4), .int z2, .int z4], [], gm M)) (b := true) rfl rfl ?_
              refine Rc.less (ls2 := [.ref 280, .ref x1, .int x2, UU, .int x4, .int (x5 - (1 : Int32)), .int (x2 + z4), UU, UU]) (by refine ⟨Or.inr rfl, Or.inr rfl, Or.inr rfl, Or.inl rfl, Or.inr rfl, Or.inr rfl, Or.inr rfl, Or.inl rfl, Or.inl rfl, trivial⟩) ?_
              exact ih x1 x2 x4 (x5 - (1 : Int32)) (x2 + z4) _ _ _ hs
            · rw [if_neg h6] at hs
              refine Rc.goL mt_1242 3 (f2 := (if (lg_cmp (M.2 309 (Int32.toNatClampNeg (x5 - (1 : Int32)))) (0 : Int64)) = 0 then 138 else 183, [.ref 280, .ref x1, .int x2, UU, .int x4, .int (x5 - (1 : Int32)), .int (x6 + (1 : Int32)), .int z2, .int z4], [], gm M)) (b := (ib 220 (x5 - (1 : Int32)) && true)) rfl (and_i hb5_0 rfl) ?_
              rw [if_neg h6]
              refine Rc.goL mt_1242 0 (f2 := (8, [.ref 280, .ref x1, .int x2, UU, .int x4, .int (x5 - (1 : Int32)), .int (x6 + (1 : Int32)), .int z2, .int z4], [], gm M)) (b := true) rfl rfl ?_
              refine Rc.less (ls2 := [.ref 280, .ref x1, .int x2, UU, .int x4, .int (x5 - (1 : Int32)), .int (x6 + (1 : Int32)), UU, UU]) (by refine ⟨Or.inr rfl, Or.inr rfl, Or.inr rfl, Or.inl rfl, Or.inr rfl, Or.inr rfl, Or.inr rfl, Or.inl rfl, Or.inl rfl, trivial⟩) ?_
              exact ih x1 x2 x4 (x5 - (1 : Int32)) (x6 + (1 : Int32)) _ _ _ hs
          · rw [if_neg h12] at hs
            refine Rc.goL mt_1242 2 (f2 := (if z2 = (13 : Int32) then 120 else 147, [.ref 280, .ref x1, .int x2, UU, .int x4, .int x5, .int (x6 + (1 : Int32)), .int z2, .int z4], [], gm M)) (b := true) rfl rfl ?_
            rw [if_neg h12]
            obtain ⟨hb7, hs⟩ := ck_some hs
            obtain ⟨hb7_0, hb7⟩ := and_t hb7
            obtain ⟨hb7_1, hb7⟩ := and_t hb7
            refine Rc.goL mt_1242 6 (f2 := (159, [.ref 280, .ref x1, .int x2, UU, .int x4, .int (x5 - (1 : Int32)), .int (x6 + (1 : Int32)), .int z2, .int z4], [.int (x5 - (1 : Int32)), .ref 309], gm M)) (b := true) rfl rfl ?_
            refine Rc.goL mt_1242 6 (f2 := (170, [.ref 280, .ref x1, .int x2, UU, .int x4, .int (x5 - (1 : Int32)), .int (x6 + (1 : Int32)), .int z2, .int z4], [.int (1 : Int32), .int (x5 - (1 : Int32)), .ref 309, .int z2, .int ((x5 - (1 : Int32)) - (1 : Int32)), .ref 309], gm M)) (b := true) rfl rfl ?_
            refine Rc.goL mt_1242 5 (f2 := (179, [.ref 280, .ref x1, .int x2, UU, .int x4, .int (x5 - (1 : Int32)), .int (x6 + (1 : Int32)), .int z2, .int z4], [.long (M.2 309 (Int32.toNatClampNeg (x5 - (1 : Int32)))), .long (M.2 309 (Int32.toNatClampNeg ((x5 - (1 : Int32)) - (1 : Int32)))), .int z2, .int ((x5 - (1 : Int32)) - (1 : Int32)), .ref 309], gm M)) (b := (ib 220 ((x5 - (1 : Int32)) - (1 : Int32)) && (ib 220 (x5 - (1 : Int32)) && true))) rfl (and_i hb7_0 (and_i hb7_1 rfl)) ?_
            obtain ⟨r8, M9, he10, hs⟩ := ob_some hs
            refine Rc.callS (i := 332) (mid' := 1241) (av := [.int z2, .long (M.2 309 (Int32.toNatClampNeg ((x5 - (1 : Int32)) - (1 : Int32)))), .long (M.2 309 (Int32.toNatClampNeg (x5 - (1 : Int32))))]) (rest := [.int ((x5 - (1 : Int32)) - (1 : Int32)), .ref 309]) (v := some (.long r8)) (M1 := gm M9) rfl (Or.inl rfl) rfl cw_1241 rfl (Nat.le_of_ble_eq_true rfl) (qmd_reckon_ok _ (by omega) he10) ?_
            obtain ⟨hb11, hs⟩ := ck_some hs
            refine Rc.goL mt_1242 0 (f2 := (183, [.ref 280, .ref x1, .int x2, UU, .int x4, .int (x5 - (1 : Int32)), .int (x6 + (1 : Int32)), .int z2, .int z4], [], gm (wL M9 309 (Int32.toNatClampNeg ((x5 - (1 : Int32)) - (1 : Int32))) r8))) (b := (ib 220 ((x5 - (1 : Int32)) - (1 : Int32)) && true)) rfl hb11 ?_
            refine Rc.goL mt_1242 0 (f2 := (8, [.ref 280, .ref x1, .int x2, UU, .int x4, .int (x5 - (1 : Int32)), .int (x6 + (1 : Int32)), .int z2, .int z4], [], gm (wL M9 309 (Int32.toNatClampNeg ((x5 - (1 : Int32)) - (1 : Int32))) r8))) (b := true) rfl rfl ?_
            refine Rc.less (ls2 := [.ref 280, .ref x1, .int x2, UU, .int x4, .int (x5 - (1 : Int32)), .int (x6 + (1 : Int32)), UU, UU]) (by refine ⟨Or.inr rfl, Or.inr rfl, Or.inr rfl, Or.inl rfl, Or.inr rfl, Or.inr rfl, Or.inr rfl, Or.inl rfl, Or.inl rfl, trivial⟩) ?_
            exact ih x1 x2 x4 (x5 - (1 : Int32)) (x6 + (1 : Int32)) _ _ _ hs
      · rw [if_neg h21] at hs
        refine Rc.goL mt_1242 6 (f2 := (if (2 : Int32) < z2 then 97 else 47, [.ref 280, .ref x1, .int x2, UU, .int x4, .int x5, .int (x6 + (1 : Int32)), .int z2, .int z4], [], gm M)) (b := true) rfl rfl ?_
        rw [if_neg h21]
        by_cases h20 : z2 = 0
        · rw [if_pos h20] at hs
          refine Rc.goL mt_1242 4 (f2 := (if z2 = 0 then 58 else 64, [.ref 280, .ref x1, .int x2, UU, .int x4, .int x5, .int (x6 + (1 : Int32)), .int z2, .int z4], [.int x5, .ref 309], gm M)) (b := true) rfl rfl ?_
          rw [if_pos h20]
          refine Rc.goL mt_1242 2 (f2 := (87, [.ref 280, .ref x1, .int x2, UU, .int x4, .int x5, .int (x6 + (1 : Int32)), .int z2, .int z4], [.long (Int32.toInt64 z4), .int x5, .ref 309], gm M)) (b := true) rfl rfl ?_
          obtain ⟨hb14, hs⟩ := ck_some hs
          obtain ⟨hb14_0, hb14⟩ := and_t hb14
          refine Rc.goL mt_1242 0 (f2 := (88, [.ref 280, .ref x1, .int x2, UU, .int x4, .int x5, .int (x6 + (1 : Int32)), .int z2, .int z4], [], gm (wL M 309 (Int32.toNatClampNeg x5) (Int32.toInt64 z4)))) (b := (ib 220 x5 && true)) rfl (and_i hb14_0 rfl) ?_
          refine Rc.goL mt_1242 4 (f2 := (183, [.ref 280, .ref x1, .int x2, UU, .int x4, .int (x5 + (1 : Int32)), .int (x6 + (1 : Int32)), .int z2, .int z4], [], gm (wL M 309 (Int32.toNatClampNeg x5) (Int32.toInt64 z4)))) (b := true) rfl rfl ?_
          refine Rc.goL mt_1242 0 (f2 := (8, [.ref 280, .ref x1, .int x2, UU, .int x4, .int (x5 + (1 : Int32)), .int (x6 + (1 : Int32)), .int z2, .int z4], [], gm (wL M 309 (Int32.toNatClampNeg x5) (Int32.toInt64 z4)))) (b := true) rfl rfl ?_
          refine Rc.less (ls2 := [.ref 280, .ref x1, .int x2, UU, .int x4, .int (x5 + (1 : Int32)), .int (x6 + (1 : Int32)), UU, UU]) (by refine ⟨Or.inr rfl, Or.inr rfl, Or.inr rfl, Or.inl rfl, Or.inr rfl, Or.inr rfl, Or.inr rfl, Or.inl rfl, Or.inl rfl, trivial⟩) ?_
          exact ih x1 x2 x4 (x5 + (1 : Int32)) (x6 + (1 : Int32)) _ _ _ hs
        · rw [if_neg h20] at hs
          refine Rc.goL mt_1242 4 (f2 := (if z2 = 0 then 58 else 64, [.ref 280, .ref x1, .int x2, UU, .int x4, .int x5, .int (x6 + (1 : Int32)), .int z2, .int z4], [.int x5, .ref 309], gm M)) (b := true) rfl rfl ?_
          rw [if_neg h20]
          by_cases h19 : z2 = (1 : Int32)
          · rw [if_pos h19] at hs
            refine Rc.goL mt_1242 2 (f2 := (if z2 = (1 : Int32) then 70 else 80, [.ref 280, .ref x1, .int x2, UU, .int x4, .int x5, .int (x6 + (1 : Int32)), .int z2, .int z4], [.int x5, .ref 309], gm M)) (b := true) rfl rfl ?_
            rw [if_pos h19]
            obtain ⟨hb15, hs⟩ := ck_some hs
            refine Rc.goL mt_1242 4 (f2 := (87, [.ref 280, .ref x1, .int x2, UU, .int x4, .int x5, .int (x6 + (1 : Int32)), .int z2, .int z4], [.long (M.2 308 (Int32.toNatClampNeg z4)), .int x5, .ref 309], gm M)) (b := (ib 26 z4 && true)) rfl hb15 ?_
            obtain ⟨hb16, hs⟩ := ck_some hs
            obtain ⟨hb16_0, hb16⟩ := and_t hb16
            refine Rc.goL mt_1242 0 (f2 := (88, [.ref 280, .ref x1, .int x2, UU, .int x4, .int x5, .int (x6 + (1 : Int32)), .int z2, .int z4], [], gm (wL M 309 (Int32.toNatClampNeg x5) (M.2 308 (Int32.toNatClampNeg z4))))) (b := (ib 220 x5 && true)) rfl (and_i hb16_0 rfl) ?_
            refine Rc.goL mt_1242 4 (f2 := (183, [.ref 280, .ref x1, .int x2, UU, .int x4, .int (x5 + (1 : Int32)), .int (x6 + (1 : Int32)), .int z2, .int z4], [], gm (wL M 309 (Int32.toNatClampNeg x5) (M.2 308 (Int32.toNatClampNeg z4))))) (b := true) rfl rfl ?_
            refine Rc.goL mt_1242 0 (f2 := (8, [.ref 280, .ref x1, .int x2, UU, .int x4, .int (x5 + (1 : Int32)), .int (x6 + (1 : Int32)), .int z2, .int z4], [], gm (wL M 309 (Int32.toNatClampNeg x5) (M.2 308 (Int32.toNatClampNeg z4))))) (b := true) rfl rfl ?_
            refine Rc.less (ls2 := [.ref 280, .ref x1, .int x2, UU, .int x4, .int (x5 + (1 : Int32)), .int (x6 + (1 : Int32)), UU, UU]) (by refine ⟨Or.inr rfl, Or.inr rfl, Or.inr rfl, Or.inl rfl, Or.inr rfl, Or.inr rfl, Or.inr rfl, Or.inl rfl, Or.inl rfl, trivial⟩) ?_
            exact ih x1 x2 x4 (x5 + (1 : Int32)) (x6 + (1 : Int32)) _ _ _ hs
          · rw [if_neg h19] at hs
            refine Rc.goL mt_1242 2 (f2 := (if z2 = (1 : Int32) then 70 else 80, [.ref 280, .ref x1, .int x2, UU, .int x4, .int x5, .int (x6 + (1 : Int32)), .int z2, .int z4], [.int x5, .ref 309], gm M)) (b := true) rfl rfl ?_
            rw [if_neg h19]
            obtain ⟨hb17, hs⟩ := ck_some hs
            refine Rc.goL mt_1242 3 (f2 := (87, [.ref 280, .ref x1, .int x2, UU, .int x4, .int x5, .int (x6 + (1 : Int32)), .int z2, .int z4], [.long (M.2 307 (Int32.toNatClampNeg z4)), .int x5, .ref 309], gm M)) (b := (ib 10 z4 && true)) rfl hb17 ?_
            obtain ⟨hb18, hs⟩ := ck_some hs
            obtain ⟨hb18_0, hb18⟩ := and_t hb18
            refine Rc.goL mt_1242 0 (f2 := (88, [.ref 280, .ref x1, .int x2, UU, .int x4, .int x5, .int (x6 + (1 : Int32)), .int z2, .int z4], [], gm (wL M 309 (Int32.toNatClampNeg x5) (M.2 307 (Int32.toNatClampNeg z4))))) (b := (ib 220 x5 && true)) rfl (and_i hb18_0 rfl) ?_
            refine Rc.goL mt_1242 4 (f2 := (183, [.ref 280, .ref x1, .int x2, UU, .int x4, .int (x5 + (1 : Int32)), .int (x6 + (1 : Int32)), .int z2, .int z4], [], gm (wL M 309 (Int32.toNatClampNeg x5) (M.2 307 (Int32.toNatClampNeg z4))))) (b := true) rfl rfl ?_
            refine Rc.goL mt_1242 0 (f2 := (8, [.ref 280, .ref x1, .int x2, UU, .int x4, .int (x5 + (1 : Int32)), .int (x6 + (1 : Int32)), .int z2, .int z4], [], gm (wL M 309 (Int32.toNatClampNeg x5) (M.2 307 (Int32.toNatClampNeg z4))))) (b := true) rfl rfl ?_
            refine Rc.less (ls2 := [.ref 280, .ref x1, .int x2, UU, .int x4, .int (x5 + (1 : Int32)), .int (x6 + (1 : Int32)), UU, UU]) (by refine ⟨Or.inr rfl, Or.inr rfl, Or.inr rfl, Or.inl rfl, Or.inr rfl, Or.inr rfl, Or.inr rfl, Or.inl rfl, Or.inl rfl, trivial⟩) ?_
            exact ih x1 x2 x4 (x5 + (1 : Int32)) (x6 + (1 : Int32)) _ _ _ hs
    · rw [if_neg h23] at hs
      refine Rc.goL mt_1242 4 (f2 := (if x6 < (x2 + x4) then 17 else 186, [.ref 280, .ref x1, .int x2, UU, .int x4, .int x5, .int x6, UU, UU], [], gm M)) (b := true) rfl rfl ?_
      rw [if_neg h23]
      obtain ⟨hb22, hs⟩ := ck_some hs
      refine Rc.goL mt_1242 3 (f2 := (192, [.ref 280, .ref x1, .int x2, UU, .int x4, .int x5, .int x6, UU, UU], [.long (M.2 309 (Int32.toNatClampNeg (0 : Int32)))], gm M)) (b := (ib 220 (0 : Int32) && true)) rfl hb22 ?_
      obtain ⟨e1, e2⟩ := some_p hs; subst e1; subst e2
      exact Rc.ret (v := some (.long (M.2 309 (Int32.toNatClampNeg (0 : Int32))))) rfl rfl
set_option maxRecDepth 20000 in
theorem qmd_worthOf_ok (d : Nat) (hd : 2 ≤ d) {x1 : Nat} {x2 : Int32} {x3 : Int32} {x4 : Int32} {M : SM} {r : Int64} {Mz : SM} (hs : qmd_worthOf x1 x2 x3 x4 M = some (r, Mz)) : Ex d 1242 [.ref 280, .ref x1, .int x2, .int x3, .int x4] (gm M) (some (.long r), gm Mz) := by
  obtain ⟨d, rfl⟩ : ∃ d0, d = d0 + 1 := ⟨d - 1, by omega⟩
  refine Ex.of okm_1242 (by omega) (Nat.le_of_ble_eq_true rfl) ?_
  show Rc (d + 1) 1242 (0, [.ref 280, .ref x1, .int x2, .int x3, .int x4, UU, UU, UU, UU], [], gm M) _
  unfold qmd_worthOf at hs
  refine Rc.goL mt_1242 5 (f2 := (8, [.ref 280, .ref x1, .int x2, .int x3, .int x4, .int (0 : Int32), .int (x2 + x3), UU, UU], [], gm M)) (b := true) rfl rfl ?_
  refine Rc.less (ls2 := [.ref 280, .ref x1, .int x2, UU, .int x4, .int (0 : Int32), .int (x2 + x3), UU, UU]) (by refine ⟨Or.inr rfl, Or.inr rfl, Or.inr rfl, Or.inl rfl, Or.inr rfl, Or.inr rfl, Or.inr rfl, Or.inl rfl, Or.inl rfl, trivial⟩) ?_
  exact qmd_worthOf_L8_ok d hd _ x1 x2 x4 (0 : Int32) (x2 + x3) _ _ _ hs
def qmd_worths_L2 (k21 : Int32 → SM → Option (Unit × SM)) : Nat → Int32 → Int32 → SM → Option (Unit × SM)
  | 0, _, _, _ => none
  | n + 1, x1, x2, M =>
    if x2 < (26 : Int32) then
    (ck (ib 26 x2 && true) (
      qmd_worths_L2 k21 n x1 (x2 + (1 : Int32)) (wL M 308 (Int32.toNatClampNeg x2) (0 : Int64)))) else
    (k21 x1 M)
def qmd_worths_L23 : Nat → Int32 → Int32 → SM → Option (Unit × SM)
  | 0, _, _, _ => none
  | n + 1, x1, x2, M =>
    if x1 = (-1 : Int32) then
    (some ((), M)) else
    (ck (ib 10 x1 && true) (
      if x2 < (M.1 297 (Int32.toNatClampNeg x1)) then
      (ck (ib 100 (((10 : Int32) * x1) + x2) && (ib 100 (((10 : Int32) * x1) + x2) && (ib 100 (((10 : Int32) * x1) + x2) && true))) (
        ob (qmd_worthOf 296 ((220 : Int32) * x1) (M.1 299 (Int32.toNatClampNeg (((10 : Int32) * x1) + x2))) (M.1 300 (Int32.toNatClampNeg (((10 : Int32) * x1) + x2))) M) (fun r7 M8 =>
        ck (ib 26 (M.1 298 (Int32.toNatClampNeg (((10 : Int32) * x1) + x2))) && true) (
        qmd_worths_L23 n x1 (x2 + (1 : Int32)) (wL M8 308 (Int32.toNatClampNeg (M.1 298 (Int32.toNatClampNeg (((10 : Int32) * x1) + x2)))) r7))))) else
      (some ((), M))))
def qmd_worths (x1 : Int32) (M : SM) : Option (Unit × SM) :=
  qmd_worths_L2 (fun y1_3 M4 =>
  qmd_worths_L23 FU y1_3 (0 : Int32) M4) FU x1 (0 : Int32) M
theorem mt_1243 : MT 1243 K_1243 LN_12 := ⟨rfl, rfl, by decide +kernel⟩
theorem okm_1243 : OKm 1243 := ⟨⟨vE_1243, okL_12, by decide +kernel⟩, by decide +kernel, by decide +kernel, by decide +kernel⟩
set_option maxRecDepth 20000 in
theorem qmd_worths_L2_ok (d : Nat) (hd : 3 ≤ d + 1) (k21 : Int32 → SM → Option (Unit × SM)) (hk21 : ∀ (y1 : Int32) (M : SM) (r : Unit) (Mz : SM), k21 y1 M = some (r, Mz) → Rc (d + 1) 1243 (21, [.ref 280, .int y1, UU], [], gm M) (none, gm Mz)) : ∀ (n : Nat) (x1 : Int32) (x2 : Int32) (M : SM) (r : Unit) (Mz : SM), qmd_worths_L2 k21 n x1 x2 M = some (r, Mz) → Rc (d + 1) 1243 (2, [.ref 280, .int x1, .int x2], [], gm M) (none, gm Mz) := by
  intro n
  induction n with
  | zero => intro x1 x2 M r Mz hs; cases hs
  | succ n ih =>
    intro x1 x2 M r Mz hs
    rw [qmd_worths_L2] at hs
    by_cases h2 : x2 < (26 : Int32)
    · rw [if_pos h2] at hs
      refine Rc.goL mt_1243 2 (f2 := (if x2 < (26 : Int32) then 8 else 21, [.ref 280, .int x1, .int x2], [], gm M)) (b := true) rfl rfl ?_
      rw [if_pos h2]
      obtain ⟨hb1, hs⟩ := ck_some hs
      obtain ⟨hb1_0, hb1⟩ := and_t hb1
      refine Rc.goL mt_1243 4 (f2 := (15, [.ref 280, .int x1, .int x2], [], gm (wL M 308 (Int32.toNatClampNeg x2) (0 : Int64)))) (b := (ib 26 x2 && true)) rfl (and_i hb1_0 rfl) ?_
      refine Rc.goL mt_1243 1 (f2 := (2, [.ref 280, .int x1, .int (x2 + (1 : Int32))], [], gm (wL M 308 (Int32.toNatClampNeg x2) (0 : Int64)))) (b := true) rfl rfl ?_
      refine Rc.less (ls2 := [.ref 280, .int x1, .int (x2 + (1 : Int32))]) (by refine ⟨Or.inr rfl, Or.inr rfl, Or.inr rfl, trivial⟩) ?_
      exact ih x1 (x2 + (1 : Int32)) _ _ _ hs
    · rw [if_neg h2] at hs
      refine Rc.goL mt_1243 2 (f2 := (if x2 < (26 : Int32) then 8 else 21, [.ref 280, .int x1, .int x2], [], gm M)) (b := true) rfl rfl ?_
      rw [if_neg h2]
      refine Rc.less (ls2 := [.ref 280, .int x1, UU]) (by refine ⟨Or.inr rfl, Or.inr rfl, Or.inl rfl, trivial⟩) ?_
      exact hk21 x1 _ _ _ hs
set_option maxRecDepth 20000 in
theorem qmd_worths_L23_ok (d : Nat) (hd : 3 ≤ d + 1) : ∀ (n : Nat) (x1 : Int32) (x2 : Int32) (M : SM) (r : Unit) (Mz : SM), qmd_worths_L23 n x1 x2 M = some (r, Mz) → Rc (d + 1) 1243 (23, [.ref 280, .int x1, .int x2], [], gm M) (none, gm Mz) := by
  intro n
  induction n with
  | zero => intro x1 x2 M r Mz hs; cases hs
  | succ n ih =>
    intro x1 x2 M r Mz hs
    rw [qmd_worths_L23] at hs
    by_cases h12 : x1 = (-1 : Int32)
    · rw [if_pos h12] at hs
      refine Rc.goL mt_1243 2 (f2 := (if x1 = (-1 : Int32) then 95 else 28, [.ref 280, .int x1, .int x2], [], gm M)) (b := true) rfl rfl ?_
      rw [if_pos h12]
      obtain ⟨e1, e2⟩ := some_p hs; subst e1; subst e2
      exact Rc.ret (v := none) rfl rfl
    · rw [if_neg h12] at hs
      refine Rc.goL mt_1243 2 (f2 := (if x1 = (-1 : Int32) then 95 else 28, [.ref 280, .int x1, .int x2], [], gm M)) (b := true) rfl rfl ?_
      rw [if_neg h12]
      obtain ⟨hb5, hs⟩ := ck_some hs
      by_cases h11 : x2 < (M.1 297 (Int32.toNatClampNeg x1))
      · rw [if_pos h11] at hs
        refine Rc.goL mt_1243 5 (f2 := (if x2 < (M.1 297 (Int32.toNatClampNeg x1)) then 38 else 95, [.ref 280, .int x1, .int x2], [], gm M)) (b := (ib 10 x1 && true)) rfl hb5 ?_
        rw [if_pos h11]
        obtain ⟨hb6, hs⟩ := ck_some hs
        obtain ⟨hb6_0, hb6⟩ := and_t hb6
        obtain ⟨hb6_1, hb6⟩ := and_t hb6
        obtain ⟨hb6_2, hb6⟩ := and_t hb6
        refine Rc.goL mt_1243 6 (f2 := (50, [.ref 280, .int x1, .int x2], [.int ((10 : Int32) * x1), .ref 298, .ref 308], gm M)) (b := true) rfl rfl ?_
        refine Rc.goL mt_1243 6 (f2 := (61, [.ref 280, .int x1, .int x2], [.int (220 : Int32), .ref 296, .ref 280, .int (M.1 298 (Int32.toNatClampNeg (((10 : Int32) * x1) + x2))), .ref 308], gm M)) (b := (ib 100 (((10 : Int32) * x1) + x2) && true)) rfl (and_i hb6_0 rfl) ?_
        refine Rc.goL mt_1243 6 (f2 := (71, [.ref 280, .int x1, .int x2], [.int ((10 : Int32) * x1), .ref 299, .int ((220 : Int32) * x1), .ref 296, .ref 280, .int (M.1 298 (Int32.toNatClampNeg (((10 : Int32) * x1) + x2))), .ref 308], gm M)) (b := true) rfl rfl ?_
        refine Rc.goL mt_1243 6 (f2 := (81, [.ref 280, .int x1, .int x2], [.int x1, .int (10 : Int32), .ref 300, .int (M.1 299 (Int32.toNatClampNeg (((10 : Int32) * x1) + x2))), .int ((220 : Int32) * x1), .ref 296, .ref 280, .int (M.1 298 (Int32.toNatClampNeg (((10 : Int32) * x1) + x2))), .ref 308], gm M)) (b := (ib 100 (((10 : Int32) * x1) + x2) && true)) rfl (and_i hb6_1 rfl) ?_
        refine Rc.goL mt_1243 3 (f2 := (85, [.ref 280, .int x1, .int x2], [.int (M.1 300 (Int32.toNatClampNeg (((10 : Int32) * x1) + x2))), .int (M.1 299 (Int32.toNatClampNeg (((10 : Int32) * x1) + x2))), .int ((220 : Int32) * x1), .ref 296, .ref 280, .int (M.1 298 (Int32.toNatClampNeg (((10 : Int32) * x1) + x2))), .ref 308], gm M)) (b := (ib 100 (((10 : Int32) * x1) + x2) && true)) rfl (and_i hb6_2 rfl) ?_
        obtain ⟨r7, M8, he9, hs⟩ := ob_some hs
        refine Rc.callV (i := 336) (mid' := 1242) (av := [.ref 296, .int ((220 : Int32) * x1), .int (M.1 299 (Int32.toNatClampNeg (((10 : Int32) * x1) + x2))), .int (M.1 300 (Int32.toNatClampNeg (((10 : Int32) * x1) + x2)))]) (rest := [.int (M.1 298 (Int32.toNatClampNeg (((10 : Int32) * x1) + x2))), .ref 308]) (v := some (.long r7)) (M1 := gm M8) (a := 280) rfl rfl rfl cw_1242 rfl (Nat.le_of_ble_eq_true rfl) rfl (Nat.le_of_ble_eq_true rfl) (qmd_worthOf_ok _ (by omega) he9) ?_
        obtain ⟨hb10, hs⟩ := ck_some hs
        obtain ⟨hb10_0, hb10⟩ := and_t hb10
        refine Rc.goL mt_1243 0 (f2 := (89, [.ref 280, .int x1, .int x2], [], gm (wL M8 308 (Int32.toNatClampNeg (M.1 298 (Int32.toNatClampNeg (((10 : Int32) * x1) + x2)))) r7))) (b := (ib 26 (M.1 298 (Int32.toNatClampNeg (((10 : Int32) * x1) + x2))) && true)) rfl (and_i hb10_0 rfl) ?_
        refine Rc.goL mt_1243 1 (f2 := (23, [.ref 280, .int x1, .int (x2 + (1 : Int32))], [], gm (wL M8 308 (Int32.toNatClampNeg (M.1 298 (Int32.toNatClampNeg (((10 : Int32) * x1) + x2)))) r7))) (b := true) rfl rfl ?_
        refine Rc.less (ls2 := [.ref 280, .int x1, .int (x2 + (1 : Int32))]) (by refine ⟨Or.inr rfl, Or.inr rfl, Or.inr rfl, trivial⟩) ?_
        exact ih x1 (x2 + (1 : Int32)) _ _ _ hs
      · rw [if_neg h11] at hs
        refine Rc.goL mt_1243 5 (f2 := (if x2 < (M.1 297 (Int32.toNatClampNeg x1)) then 38 else 95, [.ref 280, .int x1, .int x2], [], gm M)) (b := (ib 10 x1 && true)) rfl hb5 ?_
        rw [if_neg h11]
        obtain ⟨e1, e2⟩ := some_p hs; subst e1; subst e2
        exact Rc.ret (v := none) rfl rfl
set_option maxRecDepth 20000 in
theorem qmd_worths_ok (d : Nat) (hd : 3 ≤ d) {x1 : Int32} {M : SM} {r : Unit} {Mz : SM} (hs : qmd_worths x1 M = some (r, Mz)) : Ex d 1243 [.ref 280, .int x1] (gm M) (none, gm Mz) := by
  obtain ⟨d, rfl⟩ : ∃ d0, d = d0 + 1 := ⟨d - 1, by omega⟩
  refine Ex.of okm_1243 (by omega) (Nat.le_of_ble_eq_true rfl) ?_
  show Rc (d + 1) 1243 (0, [.ref 280, .int x1, UU], [], gm M) _
  unfold qmd_worths at hs
  refine Rc.goL mt_1243 1 (f2 := (2, [.ref 280, .int x1, .int (0 : Int32)], [], gm M)) (b := true) rfl rfl ?_
  refine Rc.less (ls2 := [.ref 280, .int x1, .int (0 : Int32)]) (by refine ⟨Or.inr rfl, Or.inr rfl, Or.inr rfl, trivial⟩) ?_
  refine qmd_worths_L2_ok d hd _ (fun y1_3 M4 r Mz hs => ?_) _ x1 (0 : Int32) _ _ _ hs
  · refine Rc.goL mt_1243 1 (f2 := (23, [.ref 280, .int y1_3, .int (0 : Int32)], [], gm M4)) (b := true) rfl rfl ?_
    refine Rc.less (ls2 := [.ref 280, .int y1_3, .int (0 : Int32)]) (by refine ⟨Or.inr rfl, Or.inr rfl, Or.inr rfl, trivial⟩) ?_
    exact qmd_worths_L23_ok d hd _ y1_3 (0 : Int32) _ _ _ hs
def qmd_numberAt_L6 : Nat → Int32 → Int32 → Int32 → SM → Option (Int32 × SM)
  | 0, _, _, _, _ => none
  | n + 1, x1, x2, x3, M =>
    if x3 < (((4 : Int32) * x1) + (4 : Int32)) then
    (ck (ib 200 x3 && true) (
      lt ((x2 <<< ((8 : Int32) &&& 31)) ||| ((M.1 289 (Int32.toNatClampNeg x3)) &&& (255 : Int32))) (fun (z2 : Int32) =>
      qmd_numberAt_L6 n x1 z2 (x3 + (1 : Int32)) M))) else
    (some (x2, M))
def qmd_numberAt (x1 : Int32) (M : SM) : Option (Int32 × SM) :=
  qmd_numberAt_L6 FU x1 (0 : Int32) ((4 : Int32) * x1) M
theorem mt_1244 : MT 1244 K_1244 LN_12 := ⟨rfl, rfl, by decide +kernel⟩
theorem okm_1244 : OKm 1244 := ⟨⟨vE_1244, okL_12, by decide +kernel⟩, by decide +kernel, by decide +kernel, by decide +kernel⟩
set_option maxRecDepth 20000 in
theorem qmd_numberAt_L6_ok (d : Nat) (hd : 1 ≤ d + 1) : ∀ (n : Nat) (x1 : Int32) (x2 : Int32) (x3 : Int32) (M : SM) (r : Int32) (Mz : SM), qmd_numberAt_L6 n x1 x2 x3 M = some (r, Mz) → Rc (d + 1) 1244 (6, [.ref 280, .int x1, .int x2, .int x3], [], gm M) (some (.int r), gm Mz) := by
  intro n
  induction n with
  | zero => intro x1 x2 x3 M r Mz hs; cases hs
  | succ n ih =>
    intro x1 x2 x3 M r Mz hs
    rw [qmd_numberAt_L6] at hs
    by_cases h3 : x3 < (((4 : Int32) * x1) + (4 : Int32))
    · rw [if_pos h3] at hs
      refine Rc.goL mt_1244 6 (f2 := (if x3 < (((4 : Int32) * x1) + (4 : Int32)) then 15 else 37, [.ref 280, .int x1, .int x2, .int x3], [], gm M)) (b := true) rfl rfl ?_
      rw [if_pos h3]
      obtain ⟨hb1, hs⟩ := ck_some hs
      obtain ⟨hb1_0, hb1⟩ := and_t hb1
      refine Rc.goL mt_1244 6 (f2 := (25, [.ref 280, .int x1, .int x2, .int x3], [.int (M.1 289 (Int32.toNatClampNeg x3)), .int (x2 <<< ((8 : Int32) &&& 31))], gm M)) (b := (ib 200 x3 && true)) rfl (and_i hb1_0 rfl) ?_
      refine lt_g hs (fun z2 Hz2 hs => ?_)
      refine Rc.goL mt_1244 3 (f2 := (31, [.ref 280, .int x1, .int z2, .int x3], [], gm M)) (b := true) (by subst Hz2; rfl) rfl ?_
      refine Rc.goL mt_1244 1 (f2 := (6, [.ref 280, .int x1, .int z2, .int (x3 + (1 : Int32))], [], gm M)) (b := true) rfl rfl ?_
      refine Rc.less (ls2 := [.ref 280, .int x1, .int z2, .int (x3 + (1 : Int32))]) (by refine ⟨Or.inr rfl, Or.inr rfl, Or.inr rfl, Or.inr rfl, trivial⟩) ?_
      exact ih x1 z2 (x3 + (1 : Int32)) _ _ _ hs
    · rw [if_neg h3] at hs
      refine Rc.goL mt_1244 6 (f2 := (if x3 < (((4 : Int32) * x1) + (4 : Int32)) then 15 else 37, [.ref 280, .int x1, .int x2, .int x3], [], gm M)) (b := true) rfl rfl ?_
      rw [if_neg h3]
      refine Rc.goL mt_1244 0 (f2 := (38, [.ref 280, .int x1, .int x2, .int x3], [.int x2], gm M)) (b := true) rfl rfl ?_
      obtain ⟨e1, e2⟩ := some_p hs; subst e1; subst e2
      exact Rc.ret (v := some (.int x2)) rfl rfl
set_option maxRecDepth 20000 in
theorem qmd_numberAt_ok (d : Nat) (hd : 1 ≤ d) {x1 : Int32} {M : SM} {r : Int32} {Mz : SM} (hs : qmd_numberAt x1 M = some (r, Mz)) : Ex d 1244 [.ref 280, .int x1] (gm M) (some (.int r), gm Mz) := by
  obtain ⟨d, rfl⟩ : ∃ d0, d = d0 + 1 := ⟨d - 1, by omega⟩
  refine Ex.of okm_1244 (by omega) (Nat.le_of_ble_eq_true rfl) ?_
  show Rc (d + 1) 1244 (0, [.ref 280, .int x1, UU, UU], [], gm M) _
  unfold qmd_numberAt at hs
  refine Rc.goL mt_1244 5 (f2 := (6, [.ref 280, .int x1, .int (0 : Int32), .int ((4 : Int32) * x1)], [], gm M)) (b := true) rfl rfl ?_
  refine Rc.less (ls2 := [.ref 280, .int x1, .int (0 : Int32), .int ((4 : Int32) * x1)]) (by refine ⟨Or.inr rfl, Or.inr rfl, Or.inr rfl, Or.inr rfl, trivial⟩) ?_
  exact qmd_numberAt_L6_ok d hd _ x1 (0 : Int32) ((4 : Int32) * x1) _ _ _ hs
def qmd_worth_L40 (k64 : Int32 → Int32 → SM → Option (Int64 × SM)) : Nat → Int32 → Int32 → Int32 → SM → Option (Int64 × SM)
  | 0, _, _, _, _ => none
  | n + 1, x1, x2, x3, M =>
    if x3 < (10 : Int32) then
    (ob (qmd_numberAt x3 M) (fun r4 M5 =>
      ck (ib 10 x3 && true) (
      qmd_worth_L40 k64 n x1 x2 (x3 + (1 : Int32)) (wL M5 307 (Int32.toNatClampNeg x3) (Int32.toInt64 r4))))) else
    (k64 x1 x2 M)
def qmd_worth (x1 : Int32) (x2 : Int32) (M : SM) : Option (Int64 × SM) :=
  if x1 < 0 then
  (some ((0 : Int64), M)) else
  (if x1 < (M.1 280 27) then
    (ob (qmd_in x2 (0 : Int32) (25 : Int32) M) (fun r1 M2 =>
      if r1 = 0 then
      (some ((0 : Int64), M2)) else
      (if (M2.1 280 13) < (40 : Int32) then
        (some ((0 : Int64), M2)) else
        (qmd_worth_L40 (fun y1_9 y2_10 M11 =>
          ob (qmd_worths y1_9 M11) (fun _ M12 =>
            ck (ib 26 y2_10 && true) (
            some ((M12.2 308 (Int32.toNatClampNeg y2_10)), M12)))) FU x1 x2 (0 : Int32) (wI M2 280 13 (0 : Int32)))))) else
    (some ((0 : Int64), M)))
theorem mt_1245 : MT 1245 K_1245 LN_12 := ⟨rfl, rfl, by decide +kernel⟩
theorem okm_1245 : OKm 1245 := ⟨⟨vE_1245, okL_12, by decide +kernel⟩, by decide +kernel, by decide +kernel, by decide +kernel⟩
set_option maxRecDepth 20000 in
theorem qmd_worth_L40_ok (d : Nat) (hd : 4 ≤ d + 1) (k64 : Int32 → Int32 → SM → Option (Int64 × SM)) (hk64 : ∀ (y1 : Int32) (y2 : Int32) (M : SM) (r : Int64) (Mz : SM), k64 y1 y2 M = some (r, Mz) → Rc (d + 1) 1245 (64, [.ref 280, .int y1, .int y2, UU], [], gm M) (some (.long r), gm Mz)) : ∀ (n : Nat) (x1 : Int32) (x2 : Int32) (x3 : Int32) (M : SM) (r : Int64) (Mz : SM), qmd_worth_L40 k64 n x1 x2 x3 M = some (r, Mz) → Rc (d + 1) 1245 (40, [.ref 280, .int x1, .int x2, .int x3], [], gm M) (some (.long r), gm Mz) := by
  intro n
  induction n with
  | zero => intro x1 x2 x3 M r Mz hs; cases hs
  | succ n ih =>
    intro x1 x2 x3 M r Mz hs
    rw [qmd_worth_L40] at hs
    by_cases h8 : x3 < (10 : Int32)
    · rw [if_pos h8] at hs
      refine Rc.goL mt_1245 2 (f2 := (if x3 < (10 : Int32) then 46 else 64, [.ref 280, .int x1, .int x2, .int x3], [], gm M)) (b := true) rfl rfl ?_
      rw [if_pos h8]
      refine Rc.goL mt_1245 4 (f2 := (53, [.ref 280, .int x1, .int x2, .int x3], [.int x3, .ref 280, .int x3, .ref 307], gm M)) (b := true) rfl rfl ?_
      obtain ⟨r4, M5, he6, hs⟩ := ob_some hs
      refine Rc.callV (i := 340) (mid' := 1244) (av := [.int x3]) (rest := [.int x3, .ref 307]) (v := some (.int r4)) (M1 := gm M5) (a := 280) rfl rfl rfl cw_1244 rfl (Nat.le_of_ble_eq_true rfl) rfl (Nat.le_of_ble_eq_true rfl) (qmd_numberAt_ok _ (by omega) he6) ?_
      obtain ⟨hb7, hs⟩ := ck_some hs
      obtain ⟨hb7_0, hb7⟩ := and_t hb7
      refine Rc.goL mt_1245 1 (f2 := (58, [.ref 280, .int x1, .int x2, .int x3], [], gm (wL M5 307 (Int32.toNatClampNeg x3) (Int32.toInt64 r4)))) (b := (ib 10 x3 && true)) rfl (and_i hb7_0 rfl) ?_
      refine Rc.goL mt_1245 1 (f2 := (40, [.ref 280, .int x1, .int x2, .int (x3 + (1 : Int32))], [], gm (wL M5 307 (Int32.toNatClampNeg x3) (Int32.toInt64 r4)))) (b := true) rfl rfl ?_
      refine Rc.less (ls2 := [.ref 280, .int x1, .int x2, .int (x3 + (1 : Int32))]) (by refine ⟨Or.inr rfl, Or.inr rfl, Or.inr rfl, Or.inr rfl, trivial⟩) ?_
      exact ih x1 x2 (x3 + (1 : Int32)) _ _ _ hs
    · rw [if_neg h8] at hs
      refine Rc.goL mt_1245 2 (f2 := (if x3 < (10 : Int32) then 46 else 64, [.ref 280, .int x1, .int x2, .int x3], [], gm M)) (b := true) rfl rfl ?_
      rw [if_neg h8]
      refine Rc.less (ls2 := [.ref 280, .int x1, .int x2, UU]) (by refine ⟨Or.inr rfl, Or.inr rfl, Or.inr rfl, Or.inl rfl, trivial⟩) ?_
      exact hk64 x1 x2 _ _ _ hs
set_option maxRecDepth 20000 in
theorem qmd_worth_ok (d : Nat) (hd : 4 ≤ d) {x1 : Int32} {x2 : Int32} {M : SM} {r : Int64} {Mz : SM} (hs : qmd_worth x1 x2 M = some (r, Mz)) : Ex d 1245 [.ref 280, .int x1, .int x2] (gm M) (some (.long r), gm Mz) := by
  obtain ⟨d, rfl⟩ : ∃ d0, d = d0 + 1 := ⟨d - 1, by omega⟩
  refine Ex.of okm_1245 (by omega) (Nat.le_of_ble_eq_true rfl) ?_
  show Rc (d + 1) 1245 (0, [.ref 280, .int x1, .int x2, UU], [], gm M) _
  unfold qmd_worth at hs
  by_cases h19 : x1 < 0
  · rw [if_pos h19] at hs
    refine Rc.goL mt_1245 1 (f2 := (if x1 < 0 then 31 else 4, [.ref 280, .int x1, .int x2, UU], [], gm M)) (b := true) rfl rfl ?_
    rw [if_pos h19]
    refine Rc.goL mt_1245 0 (f2 := (32, [.ref 280, .int x1, .int x2, UU], [.long (0 : Int64)], gm M)) (b := true) rfl rfl ?_
    obtain ⟨e1, e2⟩ := some_p hs; subst e1; subst e2
    exact Rc.ret (v := some (.long (0 : Int64))) rfl rfl
  · rw [if_neg h19] at hs
    refine Rc.goL mt_1245 1 (f2 := (if x1 < 0 then 31 else 4, [.ref 280, .int x1, .int x2, UU], [], gm M)) (b := true) rfl rfl ?_
    rw [if_neg h19]
    by_cases h18 : x1 < (M.1 280 27)
    · rw [if_pos h18] at hs
      refine Rc.goL mt_1245 3 (f2 := (if x1 < (M.1 280 27) then 12 else 31, [.ref 280, .int x1, .int x2, UU], [], gm M)) (b := true) rfl rfl ?_
      rw [if_pos h18]
      refine Rc.goL mt_1245 2 (f2 := (16, [.ref 280, .int x1, .int x2, UU], [.int (25 : Int32), .int (0 : Int32), .int x2], gm M)) (b := true) rfl rfl ?_
      obtain ⟨r1, M2, he3, hs⟩ := ob_some hs
      refine Rc.callS (i := 195) (mid' := 1201) (av := [.int x2, .int (0 : Int32), .int (25 : Int32)]) (rest := []) (v := some (.int r1)) (M1 := gm M2) rfl (Or.inl rfl) rfl cw_1201 rfl (Nat.le_of_ble_eq_true rfl) (qmd_in_ok _ (by omega) he3) ?_
      by_cases h17 : r1 = 0
      · rw [if_pos h17] at hs
        refine Rc.goL mt_1245 0 (f2 := (if r1 = 0 then 31 else 22, [.ref 280, .int x1, .int x2, UU], [], gm M2)) (b := true) rfl rfl ?_
        rw [if_pos h17]
        refine Rc.goL mt_1245 0 (f2 := (32, [.ref 280, .int x1, .int x2, UU], [.long (0 : Int64)], gm M2)) (b := true) rfl rfl ?_
        obtain ⟨e1, e2⟩ := some_p hs; subst e1; subst e2
        exact Rc.ret (v := some (.long (0 : Int64))) rfl rfl
      · rw [if_neg h17] at hs
        refine Rc.goL mt_1245 0 (f2 := (if r1 = 0 then 31 else 22, [.ref 280, .int x1, .int x2, UU], [], gm M2)) (b := true) rfl rfl ?_
        rw [if_neg h17]
        by_cases h16 : (M2.1 280 13) < (40 : Int32)
        · rw [if_pos h16] at hs
          refine Rc.goL mt_1245 3 (f2 := (if (M2.1 280 13) < (40 : Int32) then 31 else 33, [.ref 280, .int x1, .int x2, UU], [], gm M2)) (b := true) rfl rfl ?_
          rw [if_pos h16]
          refine Rc.goL mt_1245 0 (f2 := (32, [.ref 280, .int x1, .int x2, UU], [.long (0 : Int64)], gm M2)) (b := true) rfl rfl ?_
          obtain ⟨e1, e2⟩ := some_p hs; subst e1; subst e2
          exact Rc.ret (v := some (.long (0 : Int64))) rfl rfl
        · rw [if_neg h16] at hs
          refine Rc.goL mt_1245 3 (f2 := (if (M2.1 280 13) < (40 : Int32) then 31 else 33, [.ref 280, .int x1, .int x2, UU], [], gm M2)) (b := true) rfl rfl ?_
          rw [if_neg h16]
          refine Rc.goL mt_1245 2 (f2 := (38, [.ref 280, .int x1, .int x2, UU], [], gm (wI M2 280 13 (0 : Int32)))) (b := true) rfl rfl ?_
          refine Rc.goL mt_1245 1 (f2 := (40, [.ref 280, .int x1, .int x2, .int (0 : Int32)], [], gm (wI M2 280 13 (0 : Int32)))) (b := true) rfl rfl ?_
          refine Rc.less (ls2 := [.ref 280, .int x1, .int x2, .int (0 : Int32)]) (by refine ⟨Or.inr rfl, Or.inr rfl, Or.inr rfl, Or.inr rfl, trivial⟩) ?_
          refine qmd_worth_L40_ok d hd _ (fun y1_9 y2_10 M11 r Mz hs => ?_) _ x1 x2 (0 : Int32) _ _ _ hs
          · refine Rc.goL mt_1245 1 (f2 := (66, [.ref 280, .int y1_9, .int y2_10, UU], [.int y1_9, .ref 280], gm M11)) (b := true) rfl rfl ?_
            obtain ⟨u14, M12, he13, hs⟩ := ob_some hs
            refine Rc.callV (i := 343) (mid' := 1243) (av := [.int y1_9]) (rest := []) (v := none) (M1 := gm M12) (a := 280) rfl rfl rfl cw_1243 rfl (Nat.le_of_ble_eq_true rfl) rfl (Nat.le_of_ble_eq_true rfl) (qmd_worths_ok _ (by omega) he13) ?_
            obtain ⟨hb15, hs⟩ := ck_some hs
            refine Rc.goL mt_1245 3 (f2 := (75, [.ref 280, .int y1_9, .int y2_10, UU], [.long (M12.2 308 (Int32.toNatClampNeg y2_10))], gm M12)) (b := (ib 26 y2_10 && true)) rfl hb15 ?_
            obtain ⟨e1, e2⟩ := some_p hs; subst e1; subst e2
            exact Rc.ret (v := some (.long (M12.2 308 (Int32.toNatClampNeg y2_10)))) rfl rfl
    · rw [if_neg h18] at hs
      refine Rc.goL mt_1245 3 (f2 := (if x1 < (M.1 280 27) then 12 else 31, [.ref 280, .int x1, .int x2, UU], [], gm M)) (b := true) rfl rfl ?_
      rw [if_neg h18]
      refine Rc.goL mt_1245 0 (f2 := (32, [.ref 280, .int x1, .int x2, UU], [.long (0 : Int64)], gm M)) (b := true) rfl rfl ?_
      obtain ⟨e1, e2⟩ := some_p hs; subst e1; subst e2
      exact Rc.ret (v := some (.long (0 : Int64))) rfl rfl
def qmd_bounded_L13 (k140 : Int64 → SM → Option (Int64 × SM)) : Nat → Int32 → Int32 → Int64 → Int32 → SM → Option (Int64 × SM)
  | 0, _, _, _, _, _ => none
  | n + 1, x1, x2, x3, x5, M =>
    if x5 < (M.1 280 28) then
    (ck (ib 10 x5 && true) (
      if (M.1 305 (Int32.toNatClampNeg x5)) = (x1 - (65 : Int32)) then
      (ck (ib 10 x5 && (ib 10 x5 && true)) (
        ob (qmd_in x2 (M.1 303 (Int32.toNatClampNeg x5)) (M.1 304 (Int32.toNatClampNeg x5)) M) (fun r4 M5 =>
        if r4 = 0 then
        (qmd_bounded_L13 k140 n x1 x2 x3 (x5 + (1 : Int32)) M5) else
        (ck (ib 10 x5 && true) (
          ob (qmd_worthOf 301 ((80 : Int32) * x5) (0 : Int32) (M5.1 302 (Int32.toNatClampNeg x5)) M5) (fun r8 M9 =>
          ck (ib 10 x5 && true) (
          jn (fun (x1_12 : Int32) (x2_13 : Int32) (x3_14 : Int64) (x5_15 : Int32) (x6_16 : Int64) (t17 : Int32) (M18 : SM) =>
            if t17 = 0 then
              (qmd_bounded_L13 k140 n x1_12 x2_13 x3_14 (x5_15 + (1 : Int32)) M18) else
              (qmd_bounded_L13 k140 n x1_12 x2_13 x6_16 (x5_15 + (1 : Int32)) M18)) (fun j20 =>
          if (M9.1 306 (Int32.toNatClampNeg x5)) = 0 then
          (if 0 < (lg_cmp r8 x3) then
            (j20 x1 x2 x3 x5 r8 (1 : Int32) M9) else
            (j20 x1 x2 x3 x5 r8 (0 : Int32) M9)) else
          (if (lg_cmp r8 x3) < 0 then
            (j20 x1 x2 x3 x5 r8 (1 : Int32) M9) else
            (j20 x1 x2 x3 x5 r8 (0 : Int32) M9)))))))))) else
      (qmd_bounded_L13 k140 n x1 x2 x3 (x5 + (1 : Int32)) M))) else
    (k140 x3 M)
def qmd_bounded (x1 : Int32) (x2 : Int32) (M : SM) : Option (Int64 × SM) :=
  ck (ib 26 (x1 - (65 : Int32)) && true) (
  qmd_bounded_L13 (fun y3_27 M28 =>
  if (lg_cmp y3_27 (0 : Int64)) < 0 then
    (some ((0 : Int64), M28)) else
    (if 0 < (lg_cmp y3_27 (1000000000 : Int64)) then
      (some ((1000000000 : Int64), M28)) else
      (some (y3_27, M28)))) FU x1 x2 (M.2 308 (Int32.toNatClampNeg (x1 - (65 : Int32)))) (0 : Int32) M)
theorem mt_1246 : MT 1246 K_1246 LN_12 := ⟨rfl, rfl, by decide +kernel⟩
theorem okm_1246 : OKm 1246 := ⟨⟨vE_1246, okL_12, by decide +kernel⟩, by decide +kernel, by decide +kernel, by decide +kernel⟩
set_option maxRecDepth 20000 in
theorem qmd_bounded_L13_ok (d : Nat) (hd : 3 ≤ d + 1) (k140 : Int64 → SM → Option (Int64 × SM)) (hk140 : ∀ (y3 : Int64) (M : SM) (r : Int64) (Mz : SM), k140 y3 M = some (r, Mz) → Rc (d + 1) 1246 (140, [UU, UU, UU, .long y3, UU, UU, UU, UU, UU], [], gm M) (some (.long r), gm Mz)) : ∀ (n : Nat) (x1 : Int32) (x2 : Int32) (x3 : Int64) (x5 : Int32) (M : SM) (r : Int64) (Mz : SM), qmd_bounded_L13 k140 n x1 x2 x3 x5 M = some (r, Mz) → Rc (d + 1) 1246 (13, [.ref 280, .int x1, .int x2, .long x3, UU, .int x5, UU, UU, UU], [], gm M) (some (.long r), gm Mz) := by
  intro n
  induction n with
  | zero => intro x1 x2 x3 x5 M r Mz hs; cases hs
  | succ n ih =>
    intro x1 x2 x3 x5 M r Mz hs
    rw [qmd_bounded_L13] at hs
    by_cases h26 : x5 < (M.1 280 28)
    · rw [if_pos h26] at hs
      refine Rc.goL mt_1246 3 (f2 := (if x5 < (M.1 280 28) then 22 else 140, [.ref 280, .int x1, .int x2, .long x3, UU, .int x5, UU, UU, UU], [], gm M)) (b := true) rfl rfl ?_
      rw [if_pos h26]
      obtain ⟨hb2, hs⟩ := ck_some hs
      obtain ⟨hb2_0, hb2⟩ := and_t hb2
      refine Rc.goL mt_1246 6 (f2 := (33, [.ref 280, .int x1, .int x2, .long x3, UU, .int x5, UU, UU, UU], [.int (x1 - (65 : Int32)), .int (M.1 305 (Int32.toNatClampNeg x5))], gm M)) (b := (ib 10 x5 && true)) rfl (and_i hb2_0 rfl) ?_
      by_cases h25 : (M.1 305 (Int32.toNatClampNeg x5)) = (x1 - (65 : Int32))
      · rw [if_pos h25] at hs
        refine Rc.goL mt_1246 0 (f2 := (if (M.1 305 (Int32.toNatClampNeg x5)) = (x1 - (65 : Int32)) then 36 else 134, [.ref 280, .int x1, .int x2, .long x3, UU, .int x5, UU, UU, UU], [], gm M)) (b := true) rfl rfl ?_
        rw [if_pos h25]
        obtain ⟨hb3, hs⟩ := ck_some hs
        obtain ⟨hb3_0, hb3⟩ := and_t hb3
        obtain ⟨hb3_1, hb3⟩ := and_t hb3
        refine Rc.goL mt_1246 6 (f2 := (48, [.ref 280, .int x1, .int x2, .long x3, UU, .int x5, UU, UU, UU], [.ref 304, .int (M.1 303 (Int32.toNatClampNeg x5)), .int x2], gm M)) (b := (ib 10 x5 && true)) rfl (and_i hb3_0 rfl) ?_
        refine Rc.goL mt_1246 1 (f2 := (51, [.ref 280, .int x1, .int x2, .long x3, UU, .int x5, UU, UU, UU], [.int (M.1 304 (Int32.toNatClampNeg x5)), .int (M.1 303 (Int32.toNatClampNeg x5)), .int x2], gm M)) (b := (ib 10 x5 && true)) rfl (and_i hb3_1 rfl) ?_
        obtain ⟨r4, M5, he6, hs⟩ := ob_some hs
        refine Rc.callS (i := 195) (mid' := 1201) (av := [.int x2, .int (M.1 303 (Int32.toNatClampNeg x5)), .int (M.1 304 (Int32.toNatClampNeg x5))]) (rest := []) (v := some (.int r4)) (M1 := gm M5) rfl (Or.inl rfl) rfl cw_1201 rfl (Nat.le_of_ble_eq_true rfl) (qmd_in_ok _ (by omega) he6) ?_
        by_cases h24 : r4 = 0
        · rw [if_pos h24] at hs
          refine Rc.goL mt_1246 0 (f2 := (if r4 = 0 then 57 else 60, [.ref 280, .int x1, .int x2, .long x3, UU, .int x5, UU, UU, UU], [], gm M5)) (b := true) rfl rfl ?_
          rw [if_pos h24]
          refine Rc.goL mt_1246 0 (f2 := (134, [.ref 280, .int x1, .int x2, .long x3, UU, .int x5, UU, UU, UU], [], gm M5)) (b := true) rfl rfl ?_
          refine Rc.goL mt_1246 1 (f2 := (13, [.ref 280, .int x1, .int x2, .long x3, UU, .int (x5 + (1 : Int32)), UU, UU, UU], [], gm M5)) (b := true) rfl rfl ?_
          refine Rc.less (ls2 := [.ref 280, .int x1, .int x2, .long x3, UU, .int (x5 + (1 : Int32)), UU, UU, UU]) (by refine ⟨Or.inr rfl, Or.inr rfl, Or.inr rfl, Or.inr rfl, Or.inl rfl, Or.inr rfl, Or.inl rfl, Or.inl rfl, Or.inl rfl, trivial⟩) ?_
          exact ih x1 x2 x3 (x5 + (1 : Int32)) _ _ _ hs
        · rw [if_neg h24] at hs
          refine Rc.goL mt_1246 0 (f2 := (if r4 = 0 then 57 else 60, [.ref 280, .int x1, .int x2, .long x3, UU, .int x5, UU, UU, UU], [], gm M5)) (b := true) rfl rfl ?_
          rw [if_neg h24]
          obtain ⟨hb7, hs⟩ := ck_some hs
          obtain ⟨hb7_0, hb7⟩ := and_t hb7
          refine Rc.goL mt_1246 6 (f2 := (71, [.ref 280, .int x1, .int x2, .long x3, UU, .int x5, UU, UU, UU], [.int (0 : Int32), .int ((80 : Int32) * x5), .ref 301, .ref 280], gm M5)) (b := true) rfl rfl ?_
          refine Rc.goL mt_1246 3 (f2 := (78, [.ref 280, .int x1, .int x2, .long x3, UU, .int x5, UU, UU, UU], [.int (M5.1 302 (Int32.toNatClampNeg x5)), .int (0 : Int32), .int ((80 : Int32) * x5), .ref 301, .ref 280], gm M5)) (b := (ib 10 x5 && true)) rfl (and_i hb7_0 rfl) ?_
          obtain ⟨r8, M9, he10, hs⟩ := ob_some hs
          refine Rc.callV (i := 336) (mid' := 1242) (av := [.ref 301, .int ((80 : Int32) * x5), .int (0 : Int32), .int (M5.1 302 (Int32.toNatClampNeg x5))]) (rest := []) (v := some (.long r8)) (M1 := gm M9) (a := 280) rfl rfl rfl cw_1242 rfl (Nat.le_of_ble_eq_true rfl) rfl (Nat.le_of_ble_eq_true rfl) (qmd_worthOf_ok _ (by omega) he10) ?_
          obtain ⟨hb11, hs⟩ := ck_some hs
          refine jn_e (P := fun (j : Int32 → Int32 → Int64 → Int32 → Int64 → Int32 → SM → Option (Int64 × SM)) => ∀ (x1_12 : Int32) (x2_13 : Int32) (x3_14 : Int64) (x5_15 : Int32) (x6_16 : Int64) (t17 : Int32) (M18 : SM) (r : Int64) (Mz : SM), j x1_12 x2_13 x3_14 x5_15 x6_16 t17 M18 = some (r, Mz) → Rc (d + 1) 1246 (120, [.ref 280, .int x1_12, .int x2_13, .long x3_14, UU, .int x5_15, .long x6_16, UU, UU], [.int t17], gm M18) (some (.long r), gm Mz)) hs ?_ (fun j20 Hj20 hs => ?_)
          · intro x1_12 x2_13 x3_14 x5_15 x6_16 t17 M18 r Mz hs
            try dsimp only at hs
            by_cases h19 : t17 = 0
            · rw [if_pos h19] at hs
              refine Rc.goL mt_1246 2 (f2 := (if t17 = 0 then 132 else 127, [.ref 280, .int x1_12, .int x2_13, .long x3_14, UU, .int x5_15, .long x6_16, UU, .int t17], [], gm M18)) (b := true) rfl rfl ?_
              rw [if_pos h19]
              refine Rc.goL mt_1246 0 (f2 := (133, [.ref 280, .int x1_12, .int x2_13, .long x3_14, UU, .int x5_15, .long x6_16, UU, .int t17], [.long x3_14], gm M18)) (b := true) rfl rfl ?_
              refine Rc.goL mt_1246 0 (f2 := (134, [.ref 280, .int x1_12, .int x2_13, .long x3_14, UU, .int x5_15, .long x6_16, UU, .int t17], [], gm M18)) (b := true) rfl rfl ?_
              refine Rc.goL mt_1246 1 (f2 := (13, [.ref 280, .int x1_12, .int x2_13, .long x3_14, UU, .int (x5_15 + (1 : Int32)), .long x6_16, UU, .int t17], [], gm M18)) (b := true) rfl rfl ?_
              refine Rc.less (ls2 := [.ref 280, .int x1_12, .int x2_13, .long x3_14, UU, .int (x5_15 + (1 : Int32)), UU, UU, UU]) (by refine ⟨Or.inr rfl, Or.inr rfl, Or.inr rfl, Or.inr rfl, Or.inl rfl, Or.inr rfl, Or.inl rfl, Or.inl rfl, Or.inl rfl, trivial⟩) ?_
              exact ih x1_12 x2_13 x3_14 (x5_15 + (1 : Int32)) _ _ _ hs
            · rw [if_neg h19] at hs
              refine Rc.goL mt_1246 2 (f2 := (if t17 = 0 then 132 else 127, [.ref 280, .int x1_12, .int x2_13, .long x3_14, UU, .int x5_15, .long x6_16, UU, .int t17], [], gm M18)) (b := true) rfl rfl ?_
              rw [if_neg h19]
              refine Rc.goL mt_1246 1 (f2 := (133, [.ref 280, .int x1_12, .int x2_13, .long x3_14, UU, .int x5_15, .long x6_16, UU, .int t17], [.long x6_16], gm M18)) (b := true) rfl rfl ?_
              refine Rc.goL mt_1246 0 (f2 := (134, [.ref 280, .int x1_12, .int x2_13, .long x6_16, UU, .int x5_15, .long x6_16, UU, .int t17], [], gm M18)) (b := true) rfl rfl ?_
              refine Rc.goL mt_1246 1 (f2 := (13, [.ref 280, .int x1_12, .int x2_13, .long x6_16, UU, .int (x5_15 + (1 : Int32)), .long x6_16, UU, .int t17], [], gm M18)) (b := true) rfl rfl ?_
              refine Rc.less (ls2 := [.ref 280, .int x1_12, .int x2_13, .long x6_16, UU, .int (x5_15 + (1 : Int32)), UU, UU, UU]) (by refine ⟨Or.inr rfl, Or.inr rfl, Or.inr rfl, Or.inr rfl, Or.inl rfl, Or.inr rfl, Or.inl rfl, Or.inl rfl, Or.inl rfl, trivial⟩) ?_
              exact ih x1_12 x2_13 x6_16 (x5_15 + (1 : Int32)) _ _ _ hs
          by_cases h23 : (M9.1 306 (Int32.toNatClampNeg x5)) = 0
          · rw [if_pos h23] at hs
            refine Rc.goL mt_1246 5 (f2 := (if (M9.1 306 (Int32.toNatClampNeg x5)) = 0 then 108 else 93, [.ref 280, .int x1, .int x2, .long x3, UU, .int x5, .long r8, UU, UU], [], gm M9)) (b := (ib 10 x5 && true)) rfl hb11 ?_
            rw [if_pos h23]
            by_cases h21 : 0 < (lg_cmp r8 x3)
            · rw [if_pos h21] at hs
              refine Rc.goL mt_1246 3 (f2 := (if 0 < (lg_cmp r8 x3) then 115 else 119, [.ref 280, .int x1, .int x2, .long x3, UU, .int x5, .long r8, UU, UU], [], gm M9)) (b := true) rfl rfl ?_
              rw [if_pos h21]
              refine Rc.goL mt_1246 1 (f2 := (120, [.ref 280, .int x1, .int x2, .long x3, UU, .int x5, .long r8, UU, UU], [.int (1 : Int32)], gm M9)) (b := true) rfl rfl ?_
              refine Rc.less (ls2 := [.ref 280, .int x1, .int x2, .long x3, UU, .int x5, .long r8, UU, UU]) (by refine ⟨Or.inr rfl, Or.inr rfl, Or.inr rfl, Or.inr rfl, Or.inl rfl, Or.inr rfl, Or.inr rfl, Or.inl rfl, Or.inl rfl, trivial⟩) ?_
              exact Hj20 x1 x2 x3 x5 r8 (1 : Int32) _ _ _ hs
            · rw [if_neg h21] at hs
              refine Rc.goL mt_1246 3 (f2 := (if 0 < (lg_cmp r8 x3) then 115 else 119, [.ref 280, .int x1, .int x2, .long x3, UU, .int x5, .long r8, UU, UU], [], gm M9)) (b := true) rfl rfl ?_
              rw [if_neg h21]
              refine Rc.goL mt_1246 0 (f2 := (120, [.ref 280, .int x1, .int x2, .long x3, UU, .int x5, .long r8, UU, UU], [.int (0 : Int32)], gm M9)) (b := true) rfl rfl ?_
              refine Rc.less (ls2 := [.ref 280, .int x1, .int x2, .long x3, UU, .int x5, .long r8, UU, UU]) (by refine ⟨Or.inr rfl, Or.inr rfl, Or.inr rfl, Or.inr rfl, Or.inl rfl, Or.inr rfl, Or.inr rfl, Or.inl rfl, Or.inl rfl, trivial⟩) ?_
              exact Hj20 x1 x2 x3 x5 r8 (0 : Int32) _ _ _ hs
          · rw [if_neg h23] at hs
            refine Rc.goL mt_1246 5 (f2 := (if (M9.1 306 (Int32.toNatClampNeg x5)) = 0 then 108 else 93, [.ref 280, .int x1, .int x2, .long x3, UU, .int x5, .long r8, UU, UU], [], gm M9)) (b := (ib 10 x5 && true)) rfl hb11 ?_
            rw [if_neg h23]
            by_cases h22 : (lg_cmp r8 x3) < 0
            · rw [if_pos h22] at hs
              refine Rc.goL mt_1246 3 (f2 := (if (lg_cmp r8 x3) < 0 then 100 else 104, [.ref 280, .int x1, .int x2, .long x3, UU, .int x5, .long r8, UU, UU], [], gm M9)) (b := true) rfl rfl ?_
              rw [if_pos h22]
              refine Rc.goL mt_1246 1 (f2 := (120, [.ref 280, .int x1, .int x2, .long x3, UU, .int x5, .long r8, UU, UU], [.int (1 : Int32)], gm M9)) (b := true) rfl rfl ?_
              refine Rc.less (ls2 := [.ref 280, .int x1, .int x2, .long x3, UU, .int x5, .long r8, UU, UU]) (by refine ⟨Or.inr rfl, Or.inr rfl, Or.inr rfl, Or.inr rfl, Or.inl rfl, Or.inr rfl, Or.inr rfl, Or.inl rfl, Or.inl rfl, trivial⟩) ?_
              exact Hj20 x1 x2 x3 x5 r8 (1 : Int32) _ _ _ hs
            · rw [if_neg h22] at hs
              refine Rc.goL mt_1246 3 (f2 := (if (lg_cmp r8 x3) < 0 then 100 else 104, [.ref 280, .int x1, .int x2, .long x3, UU, .int x5, .long r8, UU, UU], [], gm M9)) (b := true) rfl rfl ?_
              rw [if_neg h22]
              refine Rc.goL mt_1246 1 (f2 := (120, [.ref 280, .int x1, .int x2, .long x3, UU, .int x5, .long r8, UU, UU], [.int (0 : Int32)], gm M9)) (b := true) rfl rfl ?_
              refine Rc.less (ls2 := [.ref 280, .int x1, .int x2, .long x3, UU, .int x5, .long r8, UU, UU]) (by refine ⟨Or.inr rfl, Or.inr rfl, Or.inr rfl, Or.inr rfl, Or.inl rfl, Or.inr rfl, Or.inr rfl, Or.inl rfl, Or.inl rfl, trivial⟩) ?_
              exact Hj20 x1 x2 x3 x5 r8 (0 : Int32) _ _ _ hs
      · rw [if_neg h25] at hs
        refine Rc.goL mt_1246 0 (f2 := (if (M.1 305 (Int32.toNatClampNeg x5)) = (x1 - (65 : Int32)) then 36 else 134, [.ref 280, .int x1, .int x2, .long x3, UU, .int x5, UU, UU, UU], [], gm M)) (b := true) rfl rfl ?_
        rw [if_neg h25]
        refine Rc.goL mt_1246 1 (f2 := (13, [.ref 280, .int x1, .int x2, .long x3, UU, .int (x5 + (1 : Int32)), UU, UU, UU], [], gm M)) (b := true) rfl rfl ?_
        refine Rc.less (ls2 := [.ref 280, .int x1, .int x2, .long x3, UU, .int (x5 + (1 : Int32)), UU, UU, UU]) (by refine ⟨Or.inr rfl, Or.inr rfl, Or.inr rfl, Or.inr rfl, Or.inl rfl, Or.inr rfl, Or.inl rfl, Or.inl rfl, Or.inl rfl, trivial⟩) ?_
        exact ih x1 x2 x3 (x5 + (1 : Int32)) _ _ _ hs
    · rw [if_neg h26] at hs
      refine Rc.goL mt_1246 3 (f2 := (if x5 < (M.1 280 28) then 22 else 140, [.ref 280, .int x1, .int x2, .long x3, UU, .int x5, UU, UU, UU], [], gm M)) (b := true) rfl rfl ?_
      rw [if_neg h26]
      refine Rc.less (ls2 := [UU, UU, UU, .long x3, UU, UU, UU, UU, UU]) (by refine ⟨Or.inl rfl, Or.inl rfl, Or.inl rfl, Or.inr rfl, Or.inl rfl, Or.inl rfl, Or.inl rfl, Or.inl rfl, Or.inl rfl, trivial⟩) ?_
      exact hk140 x3 _ _ _ hs
set_option maxRecDepth 20000 in
theorem qmd_bounded_ok (d : Nat) (hd : 3 ≤ d) {x1 : Int32} {x2 : Int32} {M : SM} {r : Int64} {Mz : SM} (hs : qmd_bounded x1 x2 M = some (r, Mz)) : Ex d 1246 [.ref 280, .int x1, .int x2] (gm M) (some (.long r), gm Mz) := by
  obtain ⟨d, rfl⟩ : ∃ d0, d = d0 + 1 := ⟨d - 1, by omega⟩
  refine Ex.of okm_1246 (by omega) (Nat.le_of_ble_eq_true rfl) ?_
  show Rc (d + 1) 1246 (0, [.ref 280, .int x1, .int x2, UU, UU, UU, UU, UU, UU], [], gm M) _
  unfold qmd_bounded at hs
  obtain ⟨hb1, hs⟩ := ck_some hs
  obtain ⟨hb1_0, hb1⟩ := and_t hb1
  refine Rc.goL mt_1246 6 (f2 := (10, [.ref 280, .int x1, .int x2, .long (M.2 308 (Int32.toNatClampNeg (x1 - (65 : Int32)))), UU, UU, UU, UU, UU], [], gm M)) (b := (ib 26 (x1 - (65 : Int32)) && true)) rfl (and_i hb1_0 rfl) ?_
  refine Rc.goL mt_1246 1 (f2 := (13, [.ref 280, .int x1, .int x2, .long (M.2 308 (Int32.toNatClampNeg (x1 - (65 : Int32)))), UU, .int (0 : Int32), UU, UU, UU], [], gm M)) (b := true) rfl rfl ?_
  refine Rc.less (ls2 := [.ref 280, .int x1, .int x2, .long (M.2 308 (Int32.toNatClampNeg (x1 - (65 : Int32)))), UU, .int (0 : Int32), UU, UU, UU]) (by refine ⟨Or.inr rfl, Or.inr rfl, Or.inr rfl, Or.inr rfl, Or.inl rfl, Or.inr rfl, Or.inl rfl, Or.inl rfl, Or.inl rfl, trivial⟩) ?_
  refine qmd_bounded_L13_ok d hd _ (fun y3_27 M28 r Mz hs => ?_) _ x1 x2 (M.2 308 (Int32.toNatClampNeg (x1 - (65 : Int32)))) (0 : Int32) _ _ _ hs
  · by_cases h30 : (lg_cmp y3_27 (0 : Int64)) < 0
    · rw [if_pos h30] at hs
      refine Rc.goL mt_1246 3 (f2 := (if (lg_cmp y3_27 (0 : Int64)) < 0 then 146 else 150, [UU, UU, UU, .long y3_27, UU, UU, UU, UU, UU], [], gm M28)) (b := true) rfl rfl ?_
      rw [if_pos h30]
      refine Rc.goL mt_1246 1 (f2 := (165, [UU, UU, UU, .long y3_27, UU, UU, UU, UU, UU], [.long (0 : Int64)], gm M28)) (b := true) rfl rfl ?_
      obtain ⟨e1, e2⟩ := some_p hs; subst e1; subst e2
      exact Rc.ret (v := some (.long (0 : Int64))) rfl rfl
    · rw [if_neg h30] at hs
      refine Rc.goL mt_1246 3 (f2 := (if (lg_cmp y3_27 (0 : Int64)) < 0 then 146 else 150, [UU, UU, UU, .long y3_27, UU, UU, UU, UU, UU], [], gm M28)) (b := true) rfl rfl ?_
      rw [if_neg h30]
      by_cases h29 : 0 < (lg_cmp y3_27 (1000000000 : Int64))
      · rw [if_pos h29] at hs
        refine Rc.goL mt_1246 3 (f2 := (if 0 < (lg_cmp y3_27 (1000000000 : Int64)) then 158 else 164, [UU, UU, UU, .long y3_27, UU, UU, UU, UU, UU], [], gm M28)) (b := true) rfl rfl ?_
        rw [if_pos h29]
        refine Rc.goL mt_1246 1 (f2 := (165, [UU, UU, UU, .long y3_27, UU, UU, UU, UU, UU], [.long (1000000000 : Int64)], gm M28)) (b := true) rfl rfl ?_
        obtain ⟨e1, e2⟩ := some_p hs; subst e1; subst e2
        exact Rc.ret (v := some (.long (1000000000 : Int64))) rfl rfl
      · rw [if_neg h29] at hs
        refine Rc.goL mt_1246 3 (f2 := (if 0 < (lg_cmp y3_27 (1000000000 : Int64)) then 158 else 164, [UU, UU, UU, .long y3_27, UU, UU, UU, UU, UU], [], gm M28)) (b := true) rfl rfl ?_
        rw [if_neg h29]
        refine Rc.goL mt_1246 0 (f2 := (165, [UU, UU, UU, .long y3_27, UU, UU, UU, UU, UU], [.long y3_27], gm M28)) (b := true) rfl rfl ?_
        obtain ⟨e1, e2⟩ := some_p hs; subst e1; subst e2
        exact Rc.ret (v := some (.long y3_27)) rfl rfl
