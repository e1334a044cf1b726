def qmd_week (x1 : Int32) (x2 : Int32) (x3 : Int32) (x4 : Int32) (M : SM) : Option (Int64 × SM) :=
  ob (qmd_isFrame x1 M) (fun r1 M2 =>
  if r1 = 0 then
  (some ((-1 : Int64), M2)) else
  (ob (qmd_isWeek x2 M2) (fun r4 M5 =>
    if r4 = 0 then
    (some ((-1 : Int64), M5)) else
    (ob (qmd_isWeek x3 M5) (fun r7 M8 =>
      if r7 = 0 then
      (some ((-1 : Int64), M8)) else
      (ob (qmd_in x4 (0 : Int32) (7 : Int32) M8) (fun r10 M11 =>
        if r10 = 0 then
        (some ((-1 : Int64), M11)) else
        (ob (qmd_goesThrough x1 x3 M11) (fun _ M13 =>
          if x4 = (7 : Int32) then
          (ck (ib 520 x2 && true) (
            some ((Int32.toInt64 (M13.1 318 (Int32.toNatClampNeg x2))), M13))) else
          (if x4 = (6 : Int32) then
            (ob (qmd_hirerOf x1 x2 M13) (fun r17 M18 =>
              some ((Int32.toInt64 r17), M18))) else
            (ck (ib 16 x1 && (ib 3120 (((520 : Int32) * (M13.1 284 (Int32.toNatClampNeg x1))) + x2) && true)) (
              ob (qmd_weekOf x1 x2 (M13.1 287 (Int32.toNatClampNeg (((520 : Int32) * (M13.1 284 (Int32.toNatClampNeg x1))) + x2))) M13) (fun r21 M22 =>
              if r21 = 0 then
              (some ((0 : Int64), M22)) else
              (if x4 = (0 : Int32) then
                (some ((M22.2 280 54), M22)) else
                (if x4 = (1 : Int32) then
                (some ((M22.2 280 55), M22)) else
                (if x4 = (2 : Int32) then
                (some ((M22.2 280 56), M22)) else
                (if x4 = (3 : Int32) then
                (ob (qmd_paidInTruck M22) (fun r27 M28 =>
                  some (r27, M28))) else
                (if x4 = (4 : Int32) then
                (ob (qmd_left M22) (fun r31 M32 =>
                  some (r31, M32))) else
                (ck (ib 520 x2 && true) (
                  some ((Int32.toInt64 (M22.1 319 (Int32.toNatClampNeg x2))), M22)))))))))))))))))))))
theorem mt_1258 : MT 1258 K_1258 LN_12 := ⟨rfl, rfl, by decide +kernel⟩
theorem okm_1258 : OKm 1258 := ⟨⟨vE_1258, okL_12, by decide +kernel⟩, by decide +kernel, by decide +kernel, by decide +kernel⟩
set_option maxRecDepth 20000 in
theorem qmd_week_ok (d : Nat) (hd : 6 ≤ d) {x1 : Int32} {x2 : Int32} {x3 : Int32} {x4 : Int32} {M : SM} {r : Int64} {Mz : SM} (hs : qmd_week x1 x2 x3 x4 M = some (r, Mz)) : Ex d 1258 [.ref 280, .int x1, .int x2, .int x3, .int x4] (gm M) (some (.long r), gm Mz) := by
  obtain ⟨d, rfl⟩ : ∃ d0, d = d0 + 1 := ⟨d - 1, by omega⟩
  refine Ex.of okm_1258 (by omega) (Nat.le_of_ble_eq_true rfl) ?_
  show Rc (d + 1) 1258 (0, [.ref 280, .int x1, .int x2, .int x3, .int x4], [], gm M) _
  unfold qmd_week at hs
  refine Rc.goL mt_1258 1 (f2 := (2, [.ref 280, .int x1, .int x2, .int x3, .int x4], [.int x1, .ref 280], gm M)) (b := true) rfl rfl ?_
  obtain ⟨r1, M2, he3, hs⟩ := ob_some hs
  refine Rc.callV (i := 205) (mid' := 1204) (av := [.int x1]) (rest := []) (v := some (.int r1)) (M1 := gm M2) (a := 280) rfl rfl rfl cw_1204 rfl (Nat.le_of_ble_eq_true rfl) rfl (Nat.le_of_ble_eq_true rfl) (qmd_isFrame_ok _ (by omega) he3) ?_
  by_cases h42 : r1 = 0
  · rw [if_pos h42] at hs
    refine Rc.goL mt_1258 0 (f2 := (if r1 = 0 then 33 else 8, [.ref 280, .int x1, .int x2, .int x3, .int x4], [], gm M2)) (b := true) rfl rfl ?_
    rw [if_pos h42]
    refine Rc.goL mt_1258 0 (f2 := (36, [.ref 280, .int x1, .int x2, .int x3, .int x4], [.long (-1 : Int64)], gm M2)) (b := true) rfl rfl ?_
    obtain ⟨e1, e2⟩ := some_p hs; subst e1; subst e2
    exact Rc.ret (v := some (.long (-1 : Int64))) rfl rfl
  · rw [if_neg h42] at hs
    refine Rc.goL mt_1258 0 (f2 := (if r1 = 0 then 33 else 8, [.ref 280, .int x1, .int x2, .int x3, .int x4], [], gm M2)) (b := true) rfl rfl ?_
    rw [if_neg h42]
    refine Rc.goL mt_1258 0 (f2 := (9, [.ref 280, .int x1, .int x2, .int x3, .int x4], [.int x2], gm M2)) (b := true) rfl rfl ?_
    obtain ⟨r4, M5, he6, hs⟩ := ob_some hs
    refine Rc.callS (i := 323) (mid' := 1205) (av := [.int x2]) (rest := []) (v := some (.int r4)) (M1 := gm M5) rfl (Or.inl rfl) rfl cw_1205 rfl (Nat.le_of_ble_eq_true rfl) (qmd_isWeek_ok _ (by omega) he6) ?_
    by_cases h41 : r4 = 0
    · rw [if_pos h41] at hs
      refine Rc.goL mt_1258 0 (f2 := (if r4 = 0 then 33 else 15, [.ref 280, .int x1, .int x2, .int x3, .int x4], [], gm M5)) (b := true) rfl rfl ?_
      rw [if_pos h41]
      refine Rc.goL mt_1258 0 (f2 := (36, [.ref 280, .int x1, .int x2, .int x3, .int x4], [.long (-1 : Int64)], gm M5)) (b := true) rfl rfl ?_
      obtain ⟨e1, e2⟩ := some_p hs; subst e1; subst e2
      exact Rc.ret (v := some (.long (-1 : Int64))) rfl rfl
    · rw [if_neg h41] at hs
      refine Rc.goL mt_1258 0 (f2 := (if r4 = 0 then 33 else 15, [.ref 280, .int x1, .int x2, .int x3, .int x4], [], gm M5)) (b := true) rfl rfl ?_
      rw [if_neg h41]
      refine Rc.goL mt_1258 0 (f2 := (16, [.ref 280, .int x1, .int x2, .int x3, .int x4], [.int x3], gm M5)) (b := true) rfl rfl ?_
      obtain ⟨r7, M8, he9, hs⟩ := ob_some hs
      refine Rc.callS (i := 323) (mid' := 1205) (av := [.int x3]) (rest := []) (v := some (.int r7)) (M1 := gm M8) rfl (Or.inl rfl) rfl cw_1205 rfl (Nat.le_of_ble_eq_true rfl) (qmd_isWeek_ok _ (by omega) he9) ?_
      by_cases h40 : r7 = 0
      · rw [if_pos h40] at hs
        refine Rc.goL mt_1258 0 (f2 := (if r7 = 0 then 33 else 22, [.ref 280, .int x1, .int x2, .int x3, .int x4], [], gm M8)) (b := true) rfl rfl ?_
        rw [if_pos h40]
        refine Rc.goL mt_1258 0 (f2 := (36, [.ref 280, .int x1, .int x2, .int x3, .int x4], [.long (-1 : Int64)], gm M8)) (b := true) rfl rfl ?_
        obtain ⟨e1, e2⟩ := some_p hs; subst e1; subst e2
        exact Rc.ret (v := some (.long (-1 : Int64))) rfl rfl
      · rw [if_neg h40] at hs
        refine Rc.goL mt_1258 0 (f2 := (if r7 = 0 then 33 else 22, [.ref 280, .int x1, .int x2, .int x3, .int x4], [], gm M8)) (b := true) rfl rfl ?_
        rw [if_neg h40]
        refine Rc.goL mt_1258 2 (f2 := (27, [.ref 280, .int x1, .int x2, .int x3, .int x4], [.int (7 : Int32), .int (0 : Int32), .int x4], gm M8)) (b := true) rfl rfl ?_
        obtain ⟨r10, M11, he12, hs⟩ := ob_some hs
        refine Rc.callS (i := 195) (mid' := 1201) (av := [.int x4, .int (0 : Int32), .int (7 : Int32)]) (rest := []) (v := some (.int r10)) (M1 := gm M11) rfl (Or.inl rfl) rfl cw_1201 rfl (Nat.le_of_ble_eq_true rfl) (qmd_in_ok _ (by omega) he12) ?_
        by_cases h39 : r10 = 0
        · rw [if_pos h39] at hs
          refine Rc.goL mt_1258 0 (f2 := (if r10 = 0 then 33 else 37, [.ref 280, .int x1, .int x2, .int x3, .int x4], [], gm M11)) (b := true) rfl rfl ?_
          rw [if_pos h39]
          refine Rc.goL mt_1258 0 (f2 := (36, [.ref 280, .int x1, .int x2, .int x3, .int x4], [.long (-1 : Int64)], gm M11)) (b := true) rfl rfl ?_
          obtain ⟨e1, e2⟩ := some_p hs; subst e1; subst e2
          exact Rc.ret (v := some (.long (-1 : Int64))) rfl rfl
        · rw [if_neg h39] at hs
          refine Rc.goL mt_1258 0 (f2 := (if r10 = 0 then 33 else 37, [.ref 280, .int x1, .int x2, .int x3, .int x4], [], gm M11)) (b := true) rfl rfl ?_
          rw [if_neg h39]
          refine Rc.goL mt_1258 2 (f2 := (40, [.ref 280, .int x1, .int x2, .int x3, .int x4], [.int x3, .int x1, .ref 280], gm M11)) (b := true) rfl rfl ?_
          obtain ⟨u15, M13, he14, hs⟩ := ob_some hs
          refine Rc.callV (i := 389) (mid' := 1250) (av := [.int x1, .int x3]) (rest := []) (v := none) (M1 := gm M13) (a := 280) rfl rfl rfl cw_1250 rfl (Nat.le_of_ble_eq_true rfl) rfl (Nat.le_of_ble_eq_true rfl) (qmd_goesThrough_ok _ (by omega) he14) ?_
          by_cases h38 : x4 = (7 : Int32)
          · rw [if_pos h38] at hs
            refine Rc.goL mt_1258 2 (f2 := (if x4 = (7 : Int32) then 50 else 58, [.ref 280, .int x1, .int x2, .int x3, .int x4], [], gm M13)) (b := true) rfl rfl ?_
            rw [if_pos h38]
            obtain ⟨hb16, hs⟩ := ck_some hs
            refine Rc.goL mt_1258 4 (f2 := (57, [.ref 280, .int x1, .int x2, .int x3, .int x4], [.long (Int32.toInt64 (M13.1 318 (Int32.toNatClampNeg x2)))], gm M13)) (b := (ib 520 x2 && true)) rfl hb16 ?_
            obtain ⟨e1, e2⟩ := some_p hs; subst e1; subst e2
            exact Rc.ret (v := some (.long (Int32.toInt64 (M13.1 318 (Int32.toNatClampNeg x2))))) rfl rfl
          · rw [if_neg h38] at hs
            refine Rc.goL mt_1258 2 (f2 := (if x4 = (7 : Int32) then 50 else 58, [.ref 280, .int x1, .int x2, .int x3, .int x4], [], gm M13)) (b := true) rfl rfl ?_
            rw [if_neg h38]
            by_cases h37 : x4 = (6 : Int32)
            · rw [if_pos h37] at hs
              refine Rc.goL mt_1258 2 (f2 := (if x4 = (6 : Int32) then 65 else 73, [.ref 280, .int x1, .int x2, .int x3, .int x4], [], gm M13)) (b := true) rfl rfl ?_
              rw [if_pos h37]
              refine Rc.goL mt_1258 2 (f2 := (68, [.ref 280, .int x1, .int x2, .int x3, .int x4], [.int x2, .int x1, .ref 280], gm M13)) (b := true) rfl rfl ?_
              obtain ⟨r17, M18, he19, hs⟩ := ob_some hs
              refine Rc.callV (i := 208) (mid' := 1210) (av := [.int x1, .int x2]) (rest := []) (v := some (.int r17)) (M1 := gm M18) (a := 280) rfl rfl rfl cw_1210 rfl (Nat.le_of_ble_eq_true rfl) rfl (Nat.le_of_ble_eq_true rfl) (qmd_hirerOf_ok _ (by omega) he19) ?_
              refine Rc.goL mt_1258 0 (f2 := (72, [.ref 280, .int x1, .int x2, .int x3, .int x4], [.long (Int32.toInt64 r17)], gm M18)) (b := true) rfl rfl ?_
              obtain ⟨e1, e2⟩ := some_p hs; subst e1; subst e2
              exact Rc.ret (v := some (.long (Int32.toInt64 r17))) rfl rfl
            · rw [if_neg h37] at hs
              refine Rc.goL mt_1258 2 (f2 := (if x4 = (6 : Int32) then 65 else 73, [.ref 280, .int x1, .int x2, .int x3, .int x4], [], gm M13)) (b := true) rfl rfl ?_
              rw [if_neg h37]
              obtain ⟨hb20, hs⟩ := ck_some hs
              obtain ⟨hb20_0, hb20⟩ := and_t hb20
              obtain ⟨hb20_1, hb20⟩ := and_t hb20
              refine Rc.goL mt_1258 6 (f2 := (84, [.ref 280, .int x1, .int x2, .int x3, .int x4], [.ref 280, .int (520 : Int32), .ref 287, .int x2, .int x1, .ref 280], gm M13)) (b := true) rfl rfl ?_
              refine Rc.goL mt_1258 6 (f2 := (93, [.ref 280, .int x1, .int x2, .int x3, .int x4], [.int (M13.1 287 (Int32.toNatClampNeg (((520 : Int32) * (M13.1 284 (Int32.toNatClampNeg x1))) + x2))), .int x2, .int x1, .ref 280], gm M13)) (b := (ib 16 x1 && (ib 3120 (((520 : Int32) * (M13.1 284 (Int32.toNatClampNeg x1))) + x2) && true))) rfl (and_i hb20_0 (and_i hb20_1 rfl)) ?_
              obtain ⟨r21, M22, he23, hs⟩ := ob_some hs
              refine Rc.callV (i := 392) (mid' := 1257) (av := [.int x1, .int x2, .int (M13.1 287 (Int32.toNatClampNeg (((520 : Int32) * (M13.1 284 (Int32.toNatClampNeg x1))) + x2)))]) (rest := []) (v := some (.int r21)) (M1 := gm M22) (a := 280) rfl rfl rfl cw_1257 rfl (Nat.le_of_ble_eq_true rfl) rfl (Nat.le_of_ble_eq_true rfl) (qmd_weekOf_ok _ (by omega) he23) ?_
              by_cases h36 : r21 = 0
              · rw [if_pos h36] at hs
                refine Rc.goL mt_1258 0 (f2 := (if r21 = 0 then 99 else 101, [.ref 280, .int x1, .int x2, .int x3, .int x4], [], gm M22)) (b := true) rfl rfl ?_
                rw [if_pos h36]
                refine Rc.goL mt_1258 0 (f2 := (100, [.ref 280, .int x1, .int x2, .int x3, .int x4], [.long (0 : Int64)], gm M22)) (b := true) rfl rfl ?_
                obtain ⟨e1, e2⟩ := some_p hs; subst e1; subst e2
                exact Rc.ret (v := some (.long (0 : Int64))) rfl rfl
              · rw [if_neg h36] at hs
                refine Rc.goL mt_1258 0 (f2 := (if r21 = 0 then 99 else 101, [.ref 280, .int x1, .int x2, .int x3, .int x4], [], gm M22)) (b := true) rfl rfl ?_
                rw [if_neg h36]
                refine Rc.goL mt_1258 1 (f2 := (swl [(0, 136), (1, 141), (2, 146), (3, 151), (4, 156)] 161 x4, [.ref 280, .int x1, .int x2, .int x3, .int x4], [], gm M22)) (b := true) rfl rfl ?_
                by_cases h24 : x4 = (0 : Int32)
                · rw [if_pos h24] at hs
                  rw [show swl [(0, 136), (1, 141), (2, 146), (3, 151), (4, 156)] 161 x4 = 136 by first | (simp only [swl, if_pos h24]; done) | (rw [h24]; decide)]
                  refine Rc.goL mt_1258 1 (f2 := (140, [.ref 280, .int x1, .int x2, .int x3, .int x4], [.long (M22.2 280 54)], gm M22)) (b := true) rfl rfl ?_
                  obtain ⟨e1, e2⟩ := some_p hs; subst e1; subst e2
                  exact Rc.ret (v := some (.long (M22.2 280 54))) rfl rfl
                · rw [if_neg h24] at hs
                  by_cases h25 : x4 = (1 : Int32)
                  · rw [if_pos h25] at hs
                    rw [show swl [(0, 136), (1, 141), (2, 146), (3, 151), (4, 156)] 161 x4 = 141 by first | (simp only [swl, if_pos h25]; done) | (rw [h25]; decide)]
                    refine Rc.goL mt_1258 1 (f2 := (145, [.ref 280, .int x1, .int x2, .int x3, .int x4], [.long (M22.2 280 55)], gm M22)) (b := true) rfl rfl ?_
                    obtain ⟨e1, e2⟩ := some_p hs; subst e1; subst e2
                    exact Rc.ret (v := some (.long (M22.2 280 55))) rfl rfl
                  · rw [if_neg h25] at hs
                    by_cases h26 : x4 = (2 : Int32)
                    · rw [if_pos h26] at hs
                      rw [show swl [(0, 136), (1, 141), (2, 146), (3, 151), (4, 156)] 161 x4 = 146 by first | (simp only [swl, if_pos h26]; done) | (rw [h26]; decide)]
                      refine Rc.goL mt_1258 1 (f2 := (150, [.ref 280, .int x1, .int x2, .int x3, .int x4], [.long (M22.2 280 56)], gm M22)) (b := true) rfl rfl ?_
                      obtain ⟨e1, e2⟩ := some_p hs; subst e1; subst e2
                      exact Rc.ret (v := some (.long (M22.2 280 56))) rfl rfl
                    · rw [if_neg h26] at hs
                      by_cases h30 : x4 = (3 : Int32)
                      · rw [if_pos h30] at hs
                        rw [show swl [(0, 136), (1, 141), (2, 146), (3, 151), (4, 156)] 161 x4 = 151 by first | (simp only [swl, if_pos h30]; done) | (rw [h30]; decide)]
                        refine Rc.goL mt_1258 0 (f2 := (152, [.ref 280, .int x1, .int x2, .int x3, .int x4], [.ref 280], gm M22)) (b := true) rfl rfl ?_
                        obtain ⟨r27, M28, he29, hs⟩ := ob_some hs
                        refine Rc.callV (i := 395) (mid' := 1256) (av := []) (rest := []) (v := some (.long r27)) (M1 := gm M28) (a := 280) rfl rfl rfl cw_1256 rfl (Nat.le_of_ble_eq_true rfl) rfl (Nat.le_of_ble_eq_true rfl) (qmd_paidInTruck_ok _ (by omega) he29) ?_
                        obtain ⟨e1, e2⟩ := some_p hs; subst e1; subst e2
                        exact Rc.ret (v := some (.long r27)) rfl rfl
                      · rw [if_neg h30] at hs
                        by_cases h34 : x4 = (4 : Int32)
                        · rw [if_pos h34] at hs
                          rw [show swl [(0, 136), (1, 141), (2, 146), (3, 151), (4, 156)] 161 x4 = 156 by first | (simp only [swl, if_pos h34]; done) | (rw [h34]; decide)]
                          refine Rc.goL mt_1258 0 (f2 := (157, [.ref 280, .int x1, .int x2, .int x3, .int x4], [.ref 280], gm M22)) (b := true) rfl rfl ?_
                          obtain ⟨r31, M32, he33, hs⟩ := ob_some hs
                          refine Rc.callV (i := 376) (mid' := 1255) (av := []) (rest := []) (v := some (.long r31)) (M1 := gm M32) (a := 280) rfl rfl rfl cw_1255 rfl (Nat.le_of_ble_eq_true rfl) rfl (Nat.le_of_ble_eq_true rfl) (qmd_left_ok _ (by omega) he33) ?_
                          obtain ⟨e1, e2⟩ := some_p hs; subst e1; subst e2
                          exact Rc.ret (v := some (.long r31)) rfl rfl
                        · rw [if_neg h34] at hs
                          rw [show swl [(0, 136), (1, 141), (2, 146), (3, 151), (4, 156)] 161 x4 = 161 by simp only [swl, if_neg h24, if_neg h25, if_neg h26, if_neg h30, if_neg h34]]
                          obtain ⟨hb35, hs⟩ := ck_some hs
                          refine Rc.goL mt_1258 4 (f2 := (168, [.ref 280, .int x1, .int x2, .int x3, .int x4], [.long (Int32.toInt64 (M22.1 319 (Int32.toNatClampNeg x2)))], gm M22)) (b := (ib 520 x2 && true)) rfl hb35 ?_
                          obtain ⟨e1, e2⟩ := some_p hs; subst e1; subst e2
                          exact Rc.ret (v := some (.long (Int32.toInt64 (M22.1 319 (Int32.toNatClampNeg x2))))) rfl rfl
def qmd_earnedBy_L6 : Nat → Int32 → Int32 → Int32 → Int64 → Int32 → SM → Option (Int64 × SM)
  | 0, _, _, _, _, _, _ => none
  | n + 1, x1, x2, x3, x4, x6, M =>
    if x6 < (M.1 280 3) then
    (ob (qmd_hirerOf x6 x2 M) (fun r1 M2 =>
      if r1 = x1 then
      (ob (qmd_goesThrough x6 x3 M2) (fun _ M4 =>
        ck (ib 16 x6 && (ib 3120 (((520 : Int32) * (M4.1 284 (Int32.toNatClampNeg x6))) + x2) && true)) (
        ob (qmd_weekOf x6 x2 (M4.1 287 (Int32.toNatClampNeg (((520 : Int32) * (M4.1 284 (Int32.toNatClampNeg x6))) + x2))) M4) (fun r8 M9 =>
        ob (qmd_paidInTruck M9) (fun r11 M12 =>
        ob (qmd_left M12) (fun r14 M15 =>
        ck (ib 16 x6 && (ib 6 (M15.1 284 (Int32.toNatClampNeg x6)) && (decide (¬ (Int32.toInt64 ((100 : Int32) + (M15.1 286 (Int32.toNatClampNeg (M15.1 284 (Int32.toNatClampNeg x6)))))) = 0) && true))) (
        lt (((x4 + r14) - r11) + ((r11 * (100 : Int64)) / (Int32.toInt64 ((100 : Int32) + (M15.1 286 (Int32.toNatClampNeg (M15.1 284 (Int32.toNatClampNeg x6)))))))) (fun (z18 : Int64) =>
        qmd_earnedBy_L6 n x1 x2 x3 z18 (x6 + (1 : Int32)) M15)))))))) else
      (qmd_earnedBy_L6 n x1 x2 x3 x4 (x6 + (1 : Int32)) M2))) else
    (some (x4, M))
def qmd_earnedBy (x1 : Int32) (x2 : Int32) (x3 : Int32) (M : SM) : Option (Int64 × SM) :=
  qmd_earnedBy_L6 FU x1 x2 x3 (0 : Int64) (0 : Int32) M
theorem mt_1259 : MT 1259 K_1259 LN_12 := ⟨rfl, rfl, by decide +kernel⟩
theorem okm_1259 : OKm 1259 := ⟨⟨vE_1259, okL_12, by decide +kernel⟩, by decide +kernel, by decide +kernel, by decide +kernel⟩
set_option maxRecDepth 20000 in
theorem qmd_earnedBy_L6_ok (d : Nat) (hd : 6 ≤ d + 1) : ∀ (n : Nat) (x1 : Int32) (x2 : Int32) (x3 : Int32) (x4 : Int64) (x6 : Int32) (M : SM) (r : Int64) (Mz : SM), qmd_earnedBy_L6 n x1 x2 x3 x4 x6 M = some (r, Mz) → Rc (d + 1) 1259 (6, [.ref 280, .int x1, .int x2, .int x3, .long x4, UU, .int x6, UU, UU], [], gm M) (some (.long r), gm Mz) := by
  intro n
  induction n with
  | zero => intro x1 x2 x3 x4 x6 M r Mz hs; cases hs
  | succ n ih =>
    intro x1 x2 x3 x4 x6 M r Mz hs
    rw [qmd_earnedBy_L6] at hs
    by_cases h20 : x6 < (M.1 280 3)
    · rw [if_pos h20] at hs
      refine Rc.goL mt_1259 3 (f2 := (if x6 < (M.1 280 3) then 15 else 110, [.ref 280, .int x1, .int x2, .int x3, .long x4, UU, .int x6, UU, UU], [], gm M)) (b := true) rfl rfl ?_
      rw [if_pos h20]
      refine Rc.goL mt_1259 2 (f2 := (19, [.ref 280, .int x1, .int x2, .int x3, .long x4, UU, .int x6, UU, UU], [.int x2, .int x6, .ref 280], gm M)) (b := true) rfl rfl ?_
      obtain ⟨r1, M2, he3, hs⟩ := ob_some hs
      refine Rc.callV (i := 208) (mid' := 1210) (av := [.int x6, .int x2]) (rest := []) (v := some (.int r1)) (M1 := gm M2) (a := 280) rfl rfl rfl cw_1210 rfl (Nat.le_of_ble_eq_true rfl) rfl (Nat.le_of_ble_eq_true rfl) (qmd_hirerOf_ok _ (by omega) he3) ?_
      by_cases h19 : r1 = x1
      · rw [if_pos h19] at hs
        refine Rc.goL mt_1259 1 (f2 := (if r1 = x1 then 29 else 26, [.ref 280, .int x1, .int x2, .int x3, .long x4, UU, .int x6, UU, UU], [], gm M2)) (b := true) rfl rfl ?_
        rw [if_pos h19]
        refine Rc.goL mt_1259 2 (f2 := (33, [.ref 280, .int x1, .int x2, .int x3, .long x4, UU, .int x6, UU, UU], [.int x3, .int x6, .ref 280], gm M2)) (b := true) rfl rfl ?_
        obtain ⟨u6, M4, he5, hs⟩ := ob_some hs
        refine Rc.callV (i := 389) (mid' := 1250) (av := [.int x6, .int x3]) (rest := []) (v := none) (M1 := gm M4) (a := 280) rfl rfl rfl cw_1250 rfl (Nat.le_of_ble_eq_true rfl) rfl (Nat.le_of_ble_eq_true rfl) (qmd_goesThrough_ok _ (by omega) he5) ?_
        obtain ⟨hb7, hs⟩ := ck_some hs
        obtain ⟨hb7_0, hb7⟩ := and_t hb7
        obtain ⟨hb7_1, hb7⟩ := and_t hb7
        refine Rc.goL mt_1259 6 (f2 := (48, [.ref 280, .int x1, .int x2, .int x3, .long x4, UU, .int x6, UU, UU], [.ref 280, .int (520 : Int32), .ref 287, .int x2, .int x6, .ref 280], gm M4)) (b := true) rfl rfl ?_
        refine Rc.goL mt_1259 6 (f2 := (58, [.ref 280, .int x1, .int x2, .int x3, .long x4, UU, .int x6, UU, UU], [.int (M4.1 287 (Int32.toNatClampNeg (((520 : Int32) * (M4.1 284 (Int32.toNatClampNeg x6))) + x2))), .int x2, .int x6, .ref 280], gm M4)) (b := (ib 16 x6 && (ib 3120 (((520 : Int32) * (M4.1 284 (Int32.toNatClampNeg x6))) + x2) && true))) rfl (and_i hb7_0 (and_i hb7_1 rfl)) ?_
        obtain ⟨r8, M9, he10, hs⟩ := ob_some hs
        refine Rc.callV (i := 392) (mid' := 1257) (av := [.int x6, .int x2, .int (M4.1 287 (Int32.toNatClampNeg (((520 : Int32) * (M4.1 284 (Int32.toNatClampNeg x6))) + x2)))]) (rest := []) (v := some (.int r8)) (M1 := gm M9) (a := 280) rfl rfl rfl cw_1257 rfl (Nat.le_of_ble_eq_true rfl) rfl (Nat.le_of_ble_eq_true rfl) (qmd_weekOf_ok _ (by omega) he10) ?_
        refine Rc.goL mt_1259 1 (f2 := (63, [.ref 280, .int x1, .int x2, .int x3, .long x4, UU, .int x6, UU, UU], [.ref 280], gm M9)) (b := true) rfl rfl ?_
        obtain ⟨r11, M12, he13, hs⟩ := ob_some hs
        refine Rc.callV (i := 395) (mid' := 1256) (av := []) (rest := []) (v := some (.long r11)) (M1 := gm M12) (a := 280) rfl rfl rfl cw_1256 rfl (Nat.le_of_ble_eq_true rfl) rfl (Nat.le_of_ble_eq_true rfl) (qmd_paidInTruck_ok _ (by omega) he13) ?_
        refine Rc.goL mt_1259 2 (f2 := (71, [.ref 280, .int x1, .int x2, .int x3, .long x4, UU, .int x6, .long r11, UU], [.ref 280, .long x4], gm M12)) (b := true) rfl rfl ?_
        obtain ⟨r14, M15, he16, hs⟩ := ob_some hs
        refine Rc.callV (i := 376) (mid' := 1255) (av := []) (rest := [.long x4]) (v := some (.long r14)) (M1 := gm M15) (a := 280) rfl rfl rfl cw_1255 rfl (Nat.le_of_ble_eq_true rfl) rfl (Nat.le_of_ble_eq_true rfl) (qmd_left_ok _ (by omega) he16) ?_
        obtain ⟨hb17, hs⟩ := ck_some hs
        obtain ⟨hb17_0, hb17⟩ := and_t hb17
        obtain ⟨hb17_1, hb17⟩ := and_t hb17
        obtain ⟨hb17_2, hb17⟩ := and_t hb17
        refine Rc.goL mt_1259 6 (f2 := (86, [.ref 280, .int x1, .int x2, .int x3, .long x4, UU, .int x6, .long r11, UU], [.int (100 : Int32), .long (r11 * (100 : Int64)), .long ((x4 + r14) - r11)], gm M15)) (b := true) rfl rfl ?_
        refine Rc.goL mt_1259 6 (f2 := (98, [.ref 280, .int x1, .int x2, .int x3, .long x4, UU, .int x6, .long r11, UU], [.int (M15.1 286 (Int32.toNatClampNeg (M15.1 284 (Int32.toNatClampNeg x6)))), .int (100 : Int32), .long (r11 * (100 : Int64)), .long ((x4 + r14) - r11)], gm M15)) (b := (ib 16 x6 && (ib 6 (M15.1 284 (Int32.toNatClampNeg x6)) && true))) rfl (and_i hb17_0 (and_i hb17_1 rfl)) ?_
        refine lt_g hs (fun z18 Hz18 hs => ?_)
        refine Rc.goL mt_1259 4 (f2 := (104, [.ref 280, .int x1, .int x2, .int x3, .long z18, UU, .int x6, .long r11, UU], [], gm M15)) (b := (decide (¬ (Int32.toInt64 ((100 : Int32) + (M15.1 286 (Int32.toNatClampNeg (M15.1 284 (Int32.toNatClampNeg x6)))))) = 0) && true)) (by subst Hz18; rfl) (and_i hb17_2 rfl) ?_
        refine Rc.goL mt_1259 1 (f2 := (6, [.ref 280, .int x1, .int x2, .int x3, .long z18, UU, .int (x6 + (1 : Int32)), .long r11, UU], [], gm M15)) (b := true) rfl rfl ?_
        refine Rc.less (ls2 := [.ref 280, .int x1, .int x2, .int x3, .long z18, UU, .int (x6 + (1 : Int32)), UU, UU]) (by refine ⟨Or.inr rfl, Or.inr rfl, Or.inr rfl, Or.inr rfl, Or.inr rfl, Or.inl rfl, Or.inr rfl, Or.inl rfl, Or.inl rfl, trivial⟩) ?_
        exact ih x1 x2 x3 z18 (x6 + (1 : Int32)) _ _ _ hs
      · rw [if_neg h19] at hs
        refine Rc.goL mt_1259 1 (f2 := (if r1 = x1 then 29 else 26, [.ref 280, .int x1, .int x2, .int x3, .long x4, UU, .int x6, UU, UU], [], gm M2)) (b := true) rfl rfl ?_
        rw [if_neg h19]
        refine Rc.goL mt_1259 0 (f2 := (104, [.ref 280, .int x1, .int x2, .int x3, .long x4, UU, .int x6, UU, UU], [], gm M2)) (b := true) rfl rfl ?_
        refine Rc.goL mt_1259 1 (f2 := (6, [.ref 280, .int x1, .int x2, .int x3, .long x4, UU, .int (x6 + (1 : Int32)), UU, UU], [], gm M2)) (b := true) rfl rfl ?_
        refine Rc.less (ls2 := [.ref 280, .int x1, .int x2, .int x3, .long x4, UU, .int (x6 + (1 : Int32)), UU, UU]) (by refine ⟨Or.inr rfl, Or.inr rfl, Or.inr rfl, Or.inr rfl, Or.inr rfl, Or.inl rfl, Or.inr rfl, Or.inl rfl, Or.inl rfl, trivial⟩) ?_
        exact ih x1 x2 x3 x4 (x6 + (1 : Int32)) _ _ _ hs
    · rw [if_neg h20] at hs
      refine Rc.goL mt_1259 3 (f2 := (if x6 < (M.1 280 3) then 15 else 110, [.ref 280, .int x1, .int x2, .int x3, .long x4, UU, .int x6, UU, UU], [], gm M)) (b := true) rfl rfl ?_
      rw [if_neg h20]
      refine Rc.goL mt_1259 0 (f2 := (112, [.ref 280, .int x1, .int x2, .int x3, .long x4, UU, .int x6, UU, UU], [.long x4], gm M)) (b := true) rfl rfl ?_
      obtain ⟨e1, e2⟩ := some_p hs; subst e1; subst e2
      exact Rc.ret (v := some (.long x4)) rfl rfl
set_option maxRecDepth 20000 in
theorem qmd_earnedBy_ok (d : Nat) (hd : 6 ≤ d) {x1 : Int32} {x2 : Int32} {x3 : Int32} {M : SM} {r : Int64} {Mz : SM} (hs : qmd_earnedBy x1 x2 x3 M = some (r, Mz)) : Ex d 1259 [.ref 280, .int x1, .int x2, .int x3] (gm M) (some (.long r), gm Mz) := by
  obtain ⟨d, rfl⟩ : ∃ d0, d = d0 + 1 := ⟨d - 1, by omega⟩
  refine Ex.of okm_1259 (by omega) (Nat.le_of_ble_eq_true rfl) ?_
  show Rc (d + 1) 1259 (0, [.ref 280, .int x1, .int x2, .int x3, UU, UU, UU, UU, UU], [], gm M) _
  unfold qmd_earnedBy at hs
  refine Rc.goL mt_1259 3 (f2 := (6, [.ref 280, .int x1, .int x2, .int x3, .long (0 : Int64), UU, .int (0 : Int32), UU, UU], [], gm M)) (b := true) rfl rfl ?_
  refine Rc.less (ls2 := [.ref 280, .int x1, .int x2, .int x3, .long (0 : Int64), UU, .int (0 : Int32), UU, UU]) (by refine ⟨Or.inr rfl, Or.inr rfl, Or.inr rfl, Or.inr rfl, Or.inr rfl, Or.inl rfl, Or.inr rfl, Or.inl rfl, Or.inl rfl, trivial⟩) ?_
  exact qmd_earnedBy_L6_ok d hd _ x1 x2 x3 (0 : Int64) (0 : Int32) _ _ _ hs
def qmd_earned (x1 : Int32) (x2 : Int32) (x3 : Int32) (x4 : Int32) (M : SM) : Option (Int64 × SM) :=
  ob (qmd_isKnitter x1 M) (fun r1 M2 =>
  if r1 = 0 then
  (some ((0 : Int64), M2)) else
  (ob (qmd_isWeek x2 M2) (fun r4 M5 =>
    if r4 = 0 then
    (some ((0 : Int64), M5)) else
    (ob (qmd_isWeek x3 M5) (fun r7 M8 =>
      if r7 = 0 then
      (some ((0 : Int64), M8)) else
      (ob (qmd_earnedBy x1 x2 x3 M8) (fun r10 M11 =>
        if x4 = 0 then
        (some (r10, M11)) else
        (ck (ib 12 x1 && true) (
          lt ((Int32.toInt64 ((M11.1 280 58) * (M11.1 282 (Int32.toNatClampNeg x1)))) - r10) (fun (z14 : Int64) =>
          if (lg_cmp z14 (0 : Int64)) < 0 then
          (some ((0 : Int64), M11)) else
          (some (z14, M11))))))))))))
theorem mt_1260 : MT 1260 K_1260 LN_12 := ⟨rfl, rfl, by decide +kernel⟩
theorem okm_1260 : OKm 1260 := ⟨⟨vE_1260, okL_12, by decide +kernel⟩, by decide +kernel, by decide +kernel, by decide +kernel⟩
set_option maxRecDepth 20000 in
theorem qmd_earned_ok (d : Nat) (hd : 7 ≤ d) {x1 : Int32} {x2 : Int32} {x3 : Int32} {x4 : Int32} {M : SM} {r : Int64} {Mz : SM} (hs : qmd_earned x1 x2 x3 x4 M = some (r, Mz)) : Ex d 1260 [.ref 280, .int x1, .int x2, .int x3, .int x4] (gm M) (some (.long r), gm Mz) := by
  obtain ⟨d, rfl⟩ : ∃ d0, d = d0 + 1 := ⟨d - 1, by omega⟩
  refine Ex.of okm_1260 (by omega) (Nat.le_of_ble_eq_true rfl) ?_
  show Rc (d + 1) 1260 (0, [.ref 280, .int x1, .int x2, .int x3, .int x4, UU, UU, UU, UU], [], gm M) _
  unfold qmd_earned at hs
  refine Rc.goL mt_1260 1 (f2 := (2, [.ref 280, .int x1, .int x2, .int x3, .int x4, UU, UU, UU, UU], [.int x1, .ref 280], gm M)) (b := true) rfl rfl ?_
  obtain ⟨r1, M2, he3, hs⟩ := ob_some hs
  refine Rc.callV (i := 202) (mid' := 1203) (av := [.int x1]) (rest := []) (v := some (.int r1)) (M1 := gm M2) (a := 280) rfl rfl rfl cw_1203 rfl (Nat.le_of_ble_eq_true rfl) rfl (Nat.le_of_ble_eq_true rfl) (qmd_isKnitter_ok _ (by omega) he3) ?_
  by_cases h19 : r1 = 0
  · rw [if_pos h19] at hs
    refine Rc.goL mt_1260 0 (f2 := (if r1 = 0 then 22 else 8, [.ref 280, .int x1, .int x2, .int x3, .int x4, UU, UU, UU, UU], [], gm M2)) (b := true) rfl rfl ?_
    rw [if_pos h19]
    refine Rc.goL mt_1260 0 (f2 := (23, [.ref 280, .int x1, .int x2, .int x3, .int x4, UU, UU, UU, UU], [.long (0 : Int64)], gm M2)) (b := true) rfl rfl ?_
    obtain ⟨e1, e2⟩ := some_p hs; subst e1; subst e2
    exact Rc.ret (v := some (.long (0 : Int64))) rfl rfl
  · rw [if_neg h19] at hs
    refine Rc.goL mt_1260 0 (f2 := (if r1 = 0 then 22 else 8, [.ref 280, .int x1, .int x2, .int x3, .int x4, UU, UU, UU, UU], [], gm M2)) (b := true) rfl rfl ?_
    rw [if_neg h19]
    refine Rc.goL mt_1260 0 (f2 := (9, [.ref 280, .int x1, .int x2, .int x3, .int x4, UU, UU, UU, UU], [.int x2], gm M2)) (b := true) rfl rfl ?_
    obtain ⟨r4, M5, he6, hs⟩ := ob_some hs
    refine Rc.callS (i := 323) (mid' := 1205) (av := [.int x2]) (rest := []) (v := some (.int r4)) (M1 := gm M5) rfl (Or.inl rfl) rfl cw_1205 rfl (Nat.le_of_ble_eq_true rfl) (qmd_isWeek_ok _ (by omega) he6) ?_
    by_cases h18 : r4 = 0
    · rw [if_pos h18] at hs
      refine Rc.goL mt_1260 0 (f2 := (if r4 = 0 then 22 else 15, [.ref 280, .int x1, .int x2, .int x3, .int x4, UU, UU, UU, UU], [], gm M5)) (b := true) rfl rfl ?_
      rw [if_pos h18]
      refine Rc.goL mt_1260 0 (f2 := (23, [.ref 280, .int x1, .int x2, .int x3, .int x4, UU, UU, UU, UU], [.long (0 : Int64)], gm M5)) (b := true) rfl rfl ?_
      obtain ⟨e1, e2⟩ := some_p hs; subst e1; subst e2
      exact Rc.ret (v := some (.long (0 : Int64))) rfl rfl
    · rw [if_neg h18] at hs
      refine Rc.goL mt_1260 0 (f2 := (if r4 = 0 then 22 else 15, [.ref 280, .int x1, .int x2, .int x3, .int x4, UU, UU, UU, UU], [], gm M5)) (b := true) rfl rfl ?_
      rw [if_neg h18]
      refine Rc.goL mt_1260 0 (f2 := (16, [.ref 280, .int x1, .int x2, .int x3, .int x4, UU, UU, UU, UU], [.int x3], gm M5)) (b := true) rfl rfl ?_
      obtain ⟨r7, M8, he9, hs⟩ := ob_some hs
      refine Rc.callS (i := 323) (mid' := 1205) (av := [.int x3]) (rest := []) (v := some (.int r7)) (M1 := gm M8) rfl (Or.inl rfl) rfl cw_1205 rfl (Nat.le_of_ble_eq_true rfl) (qmd_isWeek_ok _ (by omega) he9) ?_
      by_cases h17 : r7 = 0
      · rw [if_pos h17] at hs
        refine Rc.goL mt_1260 0 (f2 := (if r7 = 0 then 22 else 24, [.ref 280, .int x1, .int x2, .int x3, .int x4, UU, UU, UU, UU], [], gm M8)) (b := true) rfl rfl ?_
        rw [if_pos h17]
        refine Rc.goL mt_1260 0 (f2 := (23, [.ref 280, .int x1, .int x2, .int x3, .int x4, UU, UU, UU, UU], [.long (0 : Int64)], gm M8)) (b := true) rfl rfl ?_
        obtain ⟨e1, e2⟩ := some_p hs; subst e1; subst e2
        exact Rc.ret (v := some (.long (0 : Int64))) rfl rfl
      · rw [if_neg h17] at hs
        refine Rc.goL mt_1260 0 (f2 := (if r7 = 0 then 22 else 24, [.ref 280, .int x1, .int x2, .int x3, .int x4, UU, UU, UU, UU], [], gm M8)) (b := true) rfl rfl ?_
        rw [if_neg h17]
        refine Rc.goL mt_1260 3 (f2 := (28, [.ref 280, .int x1, .int x2, .int x3, .int x4, UU, UU, UU, UU], [.int x3, .int x2, .int x1, .ref 280], gm M8)) (b := true) rfl rfl ?_
        obtain ⟨r10, M11, he12, hs⟩ := ob_some hs
        refine Rc.callV (i := 400) (mid' := 1259) (av := [.int x1, .int x2, .int x3]) (rest := []) (v := some (.long r10)) (M1 := gm M11) (a := 280) rfl rfl rfl cw_1259 rfl (Nat.le_of_ble_eq_true rfl) rfl (Nat.le_of_ble_eq_true rfl) (qmd_earnedBy_ok _ (by omega) he12) ?_
        by_cases h16 : x4 = 0
        · rw [if_pos h16] at hs
          refine Rc.goL mt_1260 2 (f2 := (if x4 = 0 then 38 else 41, [.ref 280, .int x1, .int x2, .int x3, .int x4, .long r10, UU, UU, UU], [], gm M11)) (b := true) rfl rfl ?_
          rw [if_pos h16]
          refine Rc.goL mt_1260 0 (f2 := (40, [.ref 280, .int x1, .int x2, .int x3, .int x4, .long r10, UU, UU, UU], [.long r10], gm M11)) (b := true) rfl rfl ?_
          obtain ⟨e1, e2⟩ := some_p hs; subst e1; subst e2
          exact Rc.ret (v := some (.long r10)) rfl rfl
        · rw [if_neg h16] at hs
          refine Rc.goL mt_1260 2 (f2 := (if x4 = 0 then 38 else 41, [.ref 280, .int x1, .int x2, .int x3, .int x4, .long r10, UU, UU, UU], [], gm M11)) (b := true) rfl rfl ?_
          rw [if_neg h16]
          obtain ⟨hb13, hs⟩ := ck_some hs
          obtain ⟨hb13_0, hb13⟩ := and_t hb13
          refine Rc.goL mt_1260 6 (f2 := (52, [.ref 280, .int x1, .int x2, .int x3, .int x4, .long r10, UU, UU, UU], [.int ((M11.1 280 58) * (M11.1 282 (Int32.toNatClampNeg x1)))], gm M11)) (b := (ib 12 x1 && true)) rfl (and_i hb13_0 rfl) ?_
          refine lt_g hs (fun z14 Hz14 hs => ?_)
          refine Rc.goL mt_1260 3 (f2 := (58, [.ref 280, .int x1, .int x2, .int x3, .int x4, .long r10, UU, .long z14, UU], [], gm M11)) (b := true) (by subst Hz14; rfl) rfl ?_
          by_cases h15 : (lg_cmp z14 (0 : Int64)) < 0
          · rw [if_pos h15] at hs
            refine Rc.goL mt_1260 3 (f2 := (if (lg_cmp z14 (0 : Int64)) < 0 then 65 else 69, [.ref 280, .int x1, .int x2, .int x3, .int x4, .long r10, UU, .long z14, UU], [], gm M11)) (b := true) rfl rfl ?_
            rw [if_pos h15]
            refine Rc.goL mt_1260 1 (f2 := (71, [.ref 280, .int x1, .int x2, .int x3, .int x4, .long r10, UU, .long z14, UU], [.long (0 : Int64)], gm M11)) (b := true) rfl rfl ?_
            obtain ⟨e1, e2⟩ := some_p hs; subst e1; subst e2
            exact Rc.ret (v := some (.long (0 : Int64))) rfl rfl
          · rw [if_neg h15] at hs
            refine Rc.goL mt_1260 3 (f2 := (if (lg_cmp z14 (0 : Int64)) < 0 then 65 else 69, [.ref 280, .int x1, .int x2, .int x3, .int x4, .long r10, UU, .long z14, UU], [], gm M11)) (b := true) rfl rfl ?_
            rw [if_neg h15]
            refine Rc.goL mt_1260 0 (f2 := (71, [.ref 280, .int x1, .int x2, .int x3, .int x4, .long r10, UU, .long z14, UU], [.long z14], gm M11)) (b := true) rfl rfl ?_
            obtain ⟨e1, e2⟩ := some_p hs; subst e1; subst e2
            exact Rc.ret (v := some (.long z14)) rfl rfl
def qmd_number (x1 : Int32) (x2 : Int32) (M : SM) : Option (Int32 × SM) :=
  ob (qmd_in x1 (10 : Int32) ((9 : Int32) + (M.1 280 1)) M) (fun r1 M2 =>
  jn (fun (x1_4 : Int32) (x2_5 : Int32) (M6 : SM) =>
    ob (qmd_in x1_4 (0 : Int32) (2 : Int32) M6) (fun r7 M8 =>
      if r7 = 0 then
      (some ((0 : Int32), M8)) else
      (jn (fun (x1_10 : Int32) (x2_11 : Int32) (t12 : Int32) (M13 : SM) =>
          ob (qmd_in x2_5 (0 : Int32) t12 M13) (fun r14 M15 =>
            if r14 = 0 then
            (some ((0 : Int32), M15)) else
            (if x1_10 = 0 then
              (some ((1 : Int32), (wI M15 280 58 x2_11))) else
              (if x1_10 = (1 : Int32) then
                (some ((1 : Int32), (wI M15 280 59 x2_11))) else
                (some ((1 : Int32), (wI M15 280 60 x2_11))))))) (fun j20 =>
        if x1_4 = (1 : Int32) then
        (j20 x1_4 x2_5 (100 : Int32) M8) else
        (j20 x1_4 x2_5 (1000 : Int32) M8))))) (fun j23 =>
  if r1 = 0 then
  (j23 x1 x2 M2) else
  (ob (qmd_in x2 (0 : Int32) (200 : Int32) M2) (fun r24 M25 =>
    if r24 = 0 then
    (j23 x1 x2 M25) else
    (ck (ib 6 (x1 - (10 : Int32)) && true) (
      some ((1 : Int32), (wI M25 286 (Int32.toNatClampNeg (x1 - (10 : Int32))) x2))))))))
theorem mt_1261 : MT 1261 K_1261 LN_12 := ⟨rfl, rfl, by decide +kernel⟩
theorem okm_1261 : OKm 1261 := ⟨⟨vE_1261, okL_12, by decide +kernel⟩, by decide +kernel, by decide +kernel, by decide +kernel⟩
set_option maxRecDepth 20000 in
theorem qmd_number_ok (d : Nat) (hd : 2 ≤ d) {x1 : Int32} {x2 : Int32} {M : SM} {r : Int32} {Mz : SM} (hs : qmd_number x1 x2 M = some (r, Mz)) : Ex d 1261 [.ref 280, .int x1, .int x2] (gm M) (some (.int r), gm Mz) := by
  obtain ⟨d, rfl⟩ : ∃ d0, d = d0 + 1 := ⟨d - 1, by omega⟩
  refine Ex.of okm_1261 (by omega) (Nat.le_of_ble_eq_true rfl) ?_
  show Rc (d + 1) 1261 (0, [.ref 280, .int x1, .int x2], [], gm M) _
  unfold qmd_number at hs
  refine Rc.goL mt_1261 5 (f2 := (10, [.ref 280, .int x1, .int x2], [.int ((9 : Int32) + (M.1 280 1)), .int (10 : Int32), .int x1], gm M)) (b := true) rfl rfl ?_
  obtain ⟨r1, M2, he3, hs⟩ := ob_some hs
  refine Rc.callS (i := 195) (mid' := 1201) (av := [.int x1, .int (10 : Int32), .int ((9 : Int32) + (M.1 280 1))]) (rest := []) (v := some (.int r1)) (M1 := gm M2) rfl (Or.inl rfl) rfl cw_1201 rfl (Nat.le_of_ble_eq_true rfl) (qmd_in_ok _ (by omega) he3) ?_
  refine jn_e (P := fun (j : Int32 → Int32 → SM → Option (Int32 × SM)) => ∀ (x1_4 : Int32) (x2_5 : Int32) (M6 : SM) (r : Int32) (Mz : SM), j x1_4 x2_5 M6 = some (r, Mz) → Rc (d + 1) 1261 (39, [.ref 280, .int x1_4, .int x2_5], [], gm M6) (some (.int r), gm Mz)) hs ?_ (fun j23 Hj23 hs => ?_)
  · intro x1_4 x2_5 M6 r Mz hs
    try dsimp only at hs
    refine Rc.goL mt_1261 2 (f2 := (42, [.ref 280, .int x1_4, .int x2_5], [.int (2 : Int32), .int (0 : Int32), .int x1_4], gm M6)) (b := true) rfl rfl ?_
    obtain ⟨r7, M8, he9, hs⟩ := ob_some hs
    refine Rc.callS (i := 195) (mid' := 1201) (av := [.int x1_4, .int (0 : Int32), .int (2 : Int32)]) (rest := []) (v := some (.int r7)) (M1 := gm M8) rfl (Or.inl rfl) rfl cw_1201 rfl (Nat.le_of_ble_eq_true rfl) (qmd_in_ok _ (by omega) he9) ?_
    by_cases h22 : r7 = 0
    · rw [if_pos h22] at hs
      refine Rc.goL mt_1261 0 (f2 := (if r7 = 0 then 69 else 48, [.ref 280, .int x1_4, .int x2_5], [], gm M8)) (b := true) rfl rfl ?_
      rw [if_pos h22]
      refine Rc.goL mt_1261 0 (f2 := (70, [.ref 280, .int x1_4, .int x2_5], [.int (0 : Int32)], gm M8)) (b := true) rfl rfl ?_
      obtain ⟨e1, e2⟩ := some_p hs; subst e1; subst e2
      exact Rc.ret (v := some (.int (0 : Int32))) rfl rfl
    · rw [if_neg h22] at hs
      refine Rc.goL mt_1261 0 (f2 := (if r7 = 0 then 69 else 48, [.ref 280, .int x1_4, .int x2_5], [], gm M8)) (b := true) rfl rfl ?_
      rw [if_neg h22]
      refine jn_e (P := fun (j : Int32 → Int32 → Int32 → SM → Option (Int32 × SM)) => ∀ (x1_10 : Int32) (x2_11 : Int32) (t12 : Int32) (M13 : SM) (r : Int32) (Mz : SM), j x1_10 x2_11 t12 M13 = some (r, Mz) → Rc (d + 1) 1261 (63, [.ref 280, .int x1_10, .int x2_11], [.int t12, .int (0 : Int32), .int x2_5], gm M13) (some (.int r), gm Mz)) hs ?_ (fun j20 Hj20 hs => ?_)
      · intro x1_10 x2_11 t12 M13 r Mz hs
        try dsimp only at hs
        obtain ⟨r14, M15, he16, hs⟩ := ob_some hs
        refine Rc.callS (i := 195) (mid' := 1201) (av := [.int x2_5, .int (0 : Int32), .int t12]) (rest := []) (v := some (.int r14)) (M1 := gm M15) rfl (Or.inl rfl) rfl cw_1201 rfl (Nat.le_of_ble_eq_true rfl) (qmd_in_ok _ (by omega) he16) ?_
        by_cases h19 : r14 = 0
        · rw [if_pos h19] at hs
          refine Rc.goL mt_1261 0 (f2 := (if r14 = 0 then 69 else 71, [.ref 280, .int x1_10, .int x2_11], [], gm M15)) (b := true) rfl rfl ?_
          rw [if_pos h19]
          refine Rc.goL mt_1261 0 (f2 := (70, [.ref 280, .int x1_10, .int x2_11], [.int (0 : Int32)], gm M15)) (b := true) rfl rfl ?_
          obtain ⟨e1, e2⟩ := some_p hs; subst e1; subst e2
          exact Rc.ret (v := some (.int (0 : Int32))) rfl rfl
        · rw [if_neg h19] at hs
          refine Rc.goL mt_1261 0 (f2 := (if r14 = 0 then 69 else 71, [.ref 280, .int x1_10, .int x2_11], [], gm M15)) (b := true) rfl rfl ?_
          rw [if_neg h19]
          by_cases h18 : x1_10 = 0
          · rw [if_pos h18] at hs
            refine Rc.goL mt_1261 1 (f2 := (if x1_10 = 0 then 75 else 83, [.ref 280, .int x1_10, .int x2_11], [], gm M15)) (b := true) rfl rfl ?_
            rw [if_pos h18]
            refine Rc.goL mt_1261 2 (f2 := (80, [.ref 280, .int x1_10, .int x2_11], [], gm (wI M15 280 58 x2_11))) (b := true) rfl rfl ?_
            refine Rc.goL mt_1261 0 (f2 := (101, [.ref 280, .int x1_10, .int x2_11], [], gm (wI M15 280 58 x2_11))) (b := true) rfl rfl ?_
            refine Rc.goL mt_1261 0 (f2 := (102, [.ref 280, .int x1_10, .int x2_11], [.int (1 : Int32)], gm (wI M15 280 58 x2_11))) (b := true) rfl rfl ?_
            obtain ⟨e1, e2⟩ := some_p hs; subst e1; subst e2
            exact Rc.ret (v := some (.int (1 : Int32))) rfl rfl
          · rw [if_neg h18] at hs
            refine Rc.goL mt_1261 1 (f2 := (if x1_10 = 0 then 75 else 83, [.ref 280, .int x1_10, .int x2_11], [], gm M15)) (b := true) rfl rfl ?_
            rw [if_neg h18]
            by_cases h17 : x1_10 = (1 : Int32)
            · rw [if_pos h17] at hs
              refine Rc.goL mt_1261 2 (f2 := (if x1_10 = (1 : Int32) then 88 else 96, [.ref 280, .int x1_10, .int x2_11], [], gm M15)) (b := true) rfl rfl ?_
              rw [if_pos h17]
              refine Rc.goL mt_1261 2 (f2 := (93, [.ref 280, .int x1_10, .int x2_11], [], gm (wI M15 280 59 x2_11))) (b := true) rfl rfl ?_
              refine Rc.goL mt_1261 0 (f2 := (101, [.ref 280, .int x1_10, .int x2_11], [], gm (wI M15 280 59 x2_11))) (b := true) rfl rfl ?_
              refine Rc.goL mt_1261 0 (f2 := (102, [.ref 280, .int x1_10, .int x2_11], [.int (1 : Int32)], gm (wI M15 280 59 x2_11))) (b := true) rfl rfl ?_
              obtain ⟨e1, e2⟩ := some_p hs; subst e1; subst e2
              exact Rc.ret (v := some (.int (1 : Int32))) rfl rfl
            · rw [if_neg h17] at hs
              refine Rc.goL mt_1261 2 (f2 := (if x1_10 = (1 : Int32) then 88 else 96, [.ref 280, .int x1_10, .int x2_11], [], gm M15)) (b := true) rfl rfl ?_
              rw [if_neg h17]
              refine Rc.goL mt_1261 2 (f2 := (101, [.ref 280, .int x1_10, .int x2_11], [], gm (wI M15 280 60 x2_11))) (b := true) rfl rfl ?_
              refine Rc.goL mt_1261 0 (f2 := (102, [.ref 280, .int x1_10, .int x2_11], [.int (1 : Int32)], gm (wI M15 280 60 x2_11))) (b := true) rfl rfl ?_
              obtain ⟨e1, e2⟩ := some_p hs; subst e1; subst e2
              exact Rc.ret (v := some (.int (1 : Int32))) rfl rfl
      by_cases h21 : x1_4 = (1 : Int32)
      · rw [if_pos h21] at hs
        refine Rc.goL mt_1261 4 (f2 := (if x1_4 = (1 : Int32) then 55 else 60, [.ref 280, .int x1_4, .int x2_5], [.int (0 : Int32), .int x2_5], gm M8)) (b := true) rfl rfl ?_
        rw [if_pos h21]
        refine Rc.goL mt_1261 1 (f2 := (63, [.ref 280, .int x1_4, .int x2_5], [.int (100 : Int32), .int (0 : Int32), .int x2_5], gm M8)) (b := true) rfl rfl ?_
        refine Rc.less (ls2 := [.ref 280, .int x1_4, .int x2_5]) (by refine ⟨Or.inr rfl, Or.inr rfl, Or.inr rfl, trivial⟩) ?_
        exact Hj20 x1_4 x2_5 (100 : Int32) _ _ _ hs
      · rw [if_neg h21] at hs
        refine Rc.goL mt_1261 4 (f2 := (if x1_4 = (1 : Int32) then 55 else 60, [.ref 280, .int x1_4, .int x2_5], [.int (0 : Int32), .int x2_5], gm M8)) (b := true) rfl rfl ?_
        rw [if_neg h21]
        refine Rc.goL mt_1261 0 (f2 := (63, [.ref 280, .int x1_4, .int x2_5], [.int (1000 : Int32), .int (0 : Int32), .int x2_5], gm M8)) (b := true) rfl rfl ?_
        refine Rc.less (ls2 := [.ref 280, .int x1_4, .int x2_5]) (by refine ⟨Or.inr rfl, Or.inr rfl, Or.inr rfl, trivial⟩) ?_
        exact Hj20 x1_4 x2_5 (1000 : Int32) _ _ _ hs
  by_cases h29 : r1 = 0
  · rw [if_pos h29] at hs
    refine Rc.goL mt_1261 0 (f2 := (if r1 = 0 then 39 else 16, [.ref 280, .int x1, .int x2], [], gm M2)) (b := true) rfl rfl ?_
    rw [if_pos h29]
    refine Rc.less (ls2 := [.ref 280, .int x1, .int x2]) (by refine ⟨Or.inr rfl, Or.inr rfl, Or.inr rfl, trivial⟩) ?_
    exact Hj23 x1 x2 _ _ _ hs
  · rw [if_neg h29] at hs
    refine Rc.goL mt_1261 0 (f2 := (if r1 = 0 then 39 else 16, [.ref 280, .int x1, .int x2], [], gm M2)) (b := true) rfl rfl ?_
    rw [if_neg h29]
    refine Rc.goL mt_1261 2 (f2 := (21, [.ref 280, .int x1, .int x2], [.int (200 : Int32), .int (0 : Int32), .int x2], gm M2)) (b := true) rfl rfl ?_
    obtain ⟨r24, M25, he26, hs⟩ := ob_some hs
    refine Rc.callS (i := 195) (mid' := 1201) (av := [.int x2, .int (0 : Int32), .int (200 : Int32)]) (rest := []) (v := some (.int r24)) (M1 := gm M25) rfl (Or.inl rfl) rfl cw_1201 rfl (Nat.le_of_ble_eq_true rfl) (qmd_in_ok _ (by omega) he26) ?_
    by_cases h28 : r24 = 0
    · rw [if_pos h28] at hs
      refine Rc.goL mt_1261 0 (f2 := (if r24 = 0 then 39 else 27, [.ref 280, .int x1, .int x2], [], gm M25)) (b := true) rfl rfl ?_
      rw [if_pos h28]
      refine Rc.less (ls2 := [.ref 280, .int x1, .int x2]) (by refine ⟨Or.inr rfl, Or.inr rfl, Or.inr rfl, trivial⟩) ?_
      exact Hj23 x1 x2 _ _ _ hs
    · rw [if_neg h28] at hs
      refine Rc.goL mt_1261 0 (f2 := (if r24 = 0 then 39 else 27, [.ref 280, .int x1, .int x2], [], gm M25)) (b := true) rfl rfl ?_
      rw [if_neg h28]
      obtain ⟨hb27, hs⟩ := ck_some hs
      obtain ⟨hb27_0, hb27⟩ := and_t hb27
      refine Rc.goL mt_1261 6 (f2 := (37, [.ref 280, .int x1, .int x2], [], gm (wI M25 286 (Int32.toNatClampNeg (x1 - (10 : Int32))) x2))) (b := (ib 6 (x1 - (10 : Int32)) && true)) rfl (and_i hb27_0 rfl) ?_
      refine Rc.goL mt_1261 0 (f2 := (38, [.ref 280, .int x1, .int x2], [.int (1 : Int32)], gm (wI M25 286 (Int32.toNatClampNeg (x1 - (10 : Int32))) x2))) (b := true) rfl rfl ?_
      obtain ⟨e1, e2⟩ := some_p hs; subst e1; subst e2
      exact Rc.ret (v := some (.int (1 : Int32))) rfl rfl
def qmd_amiss (x1 : Int32) (M : SM) : Option (Int32 × SM) :=
  if x1 < 0 then
  (some ((-1 : Int32), M)) else
  (if x1 < (M.1 280 43) then
    (ck (ib 300 x1 && (ib 300 x1 && true)) (
      lt ((M.1 315 (Int32.toNatClampNeg x1)) - (M.1 316 (Int32.toNatClampNeg x1))) (fun (z2 : Int32) =>
      if z2 < 0 then
      (some ((1 : Int32), M)) else
      (ck (ib 300 x1 && true) (
        if ((((M.1 280 59) * (M.1 315 (Int32.toNatClampNeg x1))) + (99 : Int32)) / (100 : Int32)) < z2 then
        (some ((1 : Int32), M)) else
        (some ((0 : Int32), M))))))) else
    (some ((-1 : Int32), M)))
theorem mt_1262 : MT 1262 K_1262 LN_12 := ⟨rfl, rfl, by decide +kernel⟩
theorem okm_1262 : OKm 1262 := ⟨⟨vE_1262, okL_12, by decide +kernel⟩, by decide +kernel, by decide +kernel, by decide +kernel⟩
set_option maxRecDepth 20000 in
theorem qmd_amiss_ok (d : Nat) (hd : 1 ≤ d) {x1 : Int32} {M : SM} {r : Int32} {Mz : SM} (hs : qmd_amiss x1 M = some (r, Mz)) : Ex d 1262 [.ref 280, .int x1] (gm M) (some (.int r), gm Mz) := by
  obtain ⟨d, rfl⟩ : ∃ d0, d = d0 + 1 := ⟨d - 1, by omega⟩
  refine Ex.of okm_1262 (by omega) (Nat.le_of_ble_eq_true rfl) ?_
  show Rc (d + 1) 1262 (0, [.ref 280, .int x1, UU], [], gm M) _
  unfold qmd_amiss at hs
  by_cases h7 : x1 < 0
  · rw [if_pos h7] at hs
    refine Rc.goL mt_1262 1 (f2 := (if x1 < 0 then 12 else 4, [.ref 280, .int x1, UU], [], gm M)) (b := true) rfl rfl ?_
    rw [if_pos h7]
    refine Rc.goL mt_1262 0 (f2 := (13, [.ref 280, .int x1, UU], [.int (-1 : Int32)], gm M)) (b := true) rfl rfl ?_
    obtain ⟨e1, e2⟩ := some_p hs; subst e1; subst e2
    exact Rc.ret (v := some (.int (-1 : Int32))) rfl rfl
  · rw [if_neg h7] at hs
    refine Rc.goL mt_1262 1 (f2 := (if x1 < 0 then 12 else 4, [.ref 280, .int x1, UU], [], gm M)) (b := true) rfl rfl ?_
    rw [if_neg h7]
    by_cases h6 : x1 < (M.1 280 43)
    · rw [if_pos h6] at hs
      refine Rc.goL mt_1262 3 (f2 := (if x1 < (M.1 280 43) then 14 else 12, [.ref 280, .int x1, UU], [], gm M)) (b := true) rfl rfl ?_
      rw [if_pos h6]
      obtain ⟨hb1, hs⟩ := ck_some hs
      obtain ⟨hb1_0, hb1⟩ := and_t hb1
      obtain ⟨hb1_1, hb1⟩ := and_t hb1
      refine Rc.goL mt_1262 6 (f2 := (25, [.ref 280, .int x1, UU], [.int x1, .ref 316, .int (M.1 315 (Int32.toNatClampNeg x1))], gm M)) (b := (ib 300 x1 && true)) rfl (and_i hb1_0 rfl) ?_
      refine lt_g hs (fun z2 Hz2 hs => ?_)
      refine Rc.goL mt_1262 2 (f2 := (28, [.ref 280, .int x1, .int z2], [], gm M)) (b := (ib 300 x1 && true)) (by subst Hz2; rfl) (and_i hb1_1 rfl) ?_
      by_cases h5 : z2 < 0
      · rw [if_pos h5] at hs
        refine Rc.goL mt_1262 1 (f2 := (if z2 < 0 then 53 else 32, [.ref 280, .int x1, .int z2], [], gm M)) (b := true) rfl rfl ?_
        rw [if_pos h5]
        refine Rc.goL mt_1262 1 (f2 := (58, [.ref 280, .int x1, .int z2], [.int (1 : Int32)], gm M)) (b := true) rfl rfl ?_
        obtain ⟨e1, e2⟩ := some_p hs; subst e1; subst e2
        exact Rc.ret (v := some (.int (1 : Int32))) rfl rfl
      · rw [if_neg h5] at hs
        refine Rc.goL mt_1262 1 (f2 := (if z2 < 0 then 53 else 32, [.ref 280, .int x1, .int z2], [], gm M)) (b := true) rfl rfl ?_
        rw [if_neg h5]
        obtain ⟨hb3, hs⟩ := ck_some hs
        obtain ⟨hb3_0, hb3⟩ := and_t hb3
        refine Rc.goL mt_1262 6 (f2 := (43, [.ref 280, .int x1, .int z2], [.int (M.1 315 (Int32.toNatClampNeg x1)), .int (M.1 280 59), .int z2], gm M)) (b := (ib 300 x1 && true)) rfl (and_i hb3_0 rfl) ?_
        by_cases h4 : ((((M.1 280 59) * (M.1 315 (Int32.toNatClampNeg x1))) + (99 : Int32)) / (100 : Int32)) < z2
        · rw [if_pos h4] at hs
          refine Rc.goL mt_1262 5 (f2 := (if ((((M.1 280 59) * (M.1 315 (Int32.toNatClampNeg x1))) + (99 : Int32)) / (100 : Int32)) < z2 then 53 else 57, [.ref 280, .int x1, .int z2], [], gm M)) (b := true) rfl rfl ?_
          rw [if_pos h4]
          refine Rc.goL mt_1262 1 (f2 := (58, [.ref 280, .int x1, .int z2], [.int (1 : Int32)], gm M)) (b := true) rfl rfl ?_
          obtain ⟨e1, e2⟩ := some_p hs; subst e1; subst e2
          exact Rc.ret (v := some (.int (1 : Int32))) rfl rfl
        · rw [if_neg h4] at hs
          refine Rc.goL mt_1262 5 (f2 := (if ((((M.1 280 59) * (M.1 315 (Int32.toNatClampNeg x1))) + (99 : Int32)) / (100 : Int32)) < z2 then 53 else 57, [.ref 280, .int x1, .int z2], [], gm M)) (b := true) rfl rfl ?_
          rw [if_neg h4]
          refine Rc.goL mt_1262 0 (f2 := (58, [.ref 280, .int x1, .int z2], [.int (0 : Int32)], gm M)) (b := true) rfl rfl ?_
          obtain ⟨e1, e2⟩ := some_p hs; subst e1; subst e2
          exact Rc.ret (v := some (.int (0 : Int32))) rfl rfl
    · rw [if_neg h6] at hs
      refine Rc.goL mt_1262 3 (f2 := (if x1 < (M.1 280 43) then 14 else 12, [.ref 280, .int x1, UU], [], gm M)) (b := true) rfl rfl ?_
      rw [if_neg h6]
      refine Rc.goL mt_1262 0 (f2 := (13, [.ref 280, .int x1, UU], [.int (-1 : Int32)], gm M)) (b := true) rfl rfl ?_
      obtain ⟨e1, e2⟩ := some_p hs; subst e1; subst e2
      exact Rc.ret (v := some (.int (-1 : Int32))) rfl rfl
def qmd_tells (x1 : Int32) (x2 : Int32) (x3 : Int32) (x4 : Int32) (M : SM) : Option (Int32 × SM) :=
  ob (qmd_isMaster x1 M) (fun r1 M2 =>
  if r1 = 0 then
  (some ((0 : Int32), M2)) else
  (ck (ib 6 x1 && true) (
    if (M2.1 281 (Int32.toNatClampNeg x1)) = (-1 : Int32) then
    (some ((0 : Int32), M2)) else
    (ob (qmd_in x2 (0 : Int32) (M2.1 280 0) M2) (fun r5 M6 =>
      if r5 = 0 then
      (some ((0 : Int32), M6)) else
      (ob (qmd_in x3 (0 : Int32) (9 : Int32) M6) (fun r8 M9 =>
        if r8 = 0 then
        (some ((0 : Int32), M9)) else
        (ob (qmd_in x4 (0 : Int32) (10000 : Int32) M9) (fun r11 M12 =>
          if r11 = 0 then
          (some ((0 : Int32), M12)) else
          (if (M12.1 280 61) = (200 : Int32) then
            (some ((0 : Int32), M12)) else
            (ck (ib 200 (M12.1 280 61) && (ib 200 (M12.1 280 61) && (ib 200 (M12.1 280 61) && (ib 200 (M12.1 280 61) && true)))) (
              some ((1 : Int32), (wI (wI (wI (wI (wI M12 320 (Int32.toNatClampNeg (M12.1 280 61)) x1) 321 (Int32.toNatClampNeg (M12.1 280 61)) x2) 322 (Int32.toNatClampNeg (M12.1 280 61)) x3) 323 (Int32.toNatClampNeg (M12.1 280 61)) x4) 280 61 ((M12.1 280 61) + (1 : Int32))))))))))))))))
theorem mt_1263 : MT 1263 K_1263 LN_12 := ⟨rfl, rfl, by decide +kernel⟩
theorem okm_1263 : OKm 1263 := ⟨⟨vE_1263, okL_12, by decide +kernel⟩, by decide +kernel, by decide +kernel, by decide +kernel⟩
set_option maxRecDepth 20000 in
theorem qmd_tells_ok (d : Nat) (hd : 2 ≤ d) {x1 : Int32} {x2 : Int32} {x3 : Int32} {x4 : Int32} {M : SM} {r : Int32} {Mz : SM} (hs : qmd_tells x1 x2 x3 x4 M = some (r, Mz)) : Ex d 1263 [.ref 280, .int x1, .int x2, .int x3, .int x4] (gm M) (some (.int r), gm Mz) := by
  obtain ⟨d, rfl⟩ : ∃ d0, d = d0 + 1 := ⟨d - 1, by omega⟩
  refine Ex.of okm_1263 (by omega) (Nat.le_of_ble_eq_true rfl) ?_
  show Rc (d + 1) 1263 (0, [.ref 280, .int x1, .int x2, .int x3, .int x4], [], gm M) _
  unfold qmd_tells at hs
  refine Rc.goL mt_1263 1 (f2 := (2, [.ref 280, .int x1, .int x2, .int x3, .int x4], [.int x1, .ref 280], gm M)) (b := true) rfl rfl ?_
  obtain ⟨r1, M2, he3, hs⟩ := ob_some hs
  refine Rc.callV (i := 191) (mid' := 1202) (av := [.int x1]) (rest := []) (v := some (.int r1)) (M1 := gm M2) (a := 280) rfl rfl rfl cw_1202 rfl (Nat.le_of_ble_eq_true rfl) rfl (Nat.le_of_ble_eq_true rfl) (qmd_isMaster_ok _ (by omega) he3) ?_
  by_cases h20 : r1 = 0
  · rw [if_pos h20] at hs
    refine Rc.goL mt_1263 0 (f2 := (if r1 = 0 then 62 else 8, [.ref 280, .int x1, .int x2, .int x3, .int x4], [], gm M2)) (b := true) rfl rfl ?_
    rw [if_pos h20]
    refine Rc.goL mt_1263 0 (f2 := (63, [.ref 280, .int x1, .int x2, .int x3, .int x4], [.int (0 : Int32)], gm M2)) (b := true) rfl rfl ?_
    obtain ⟨e1, e2⟩ := some_p hs; subst e1; subst e2
    exact Rc.ret (v := some (.int (0 : Int32))) rfl rfl
  · rw [if_neg h20] at hs
    refine Rc.goL mt_1263 0 (f2 := (if r1 = 0 then 62 else 8, [.ref 280, .int x1, .int x2, .int x3, .int x4], [], gm M2)) (b := true) rfl rfl ?_
    rw [if_neg h20]
    obtain ⟨hb4, hs⟩ := ck_some hs
    by_cases h19 : (M2.1 281 (Int32.toNatClampNeg x1)) = (-1 : Int32)
    · rw [if_pos h19] at hs
      refine Rc.goL mt_1263 5 (f2 := (if (M2.1 281 (Int32.toNatClampNeg x1)) = (-1 : Int32) then 62 else 18, [.ref 280, .int x1, .int x2, .int x3, .int x4], [], gm M2)) (b := (ib 6 x1 && true)) rfl hb4 ?_
      rw [if_pos h19]
      refine Rc.goL mt_1263 0 (f2 := (63, [.ref 280, .int x1, .int x2, .int x3, .int x4], [.int (0 : Int32)], gm M2)) (b := true) rfl rfl ?_
      obtain ⟨e1, e2⟩ := some_p hs; subst e1; subst e2
      exact Rc.ret (v := some (.int (0 : Int32))) rfl rfl
    · rw [if_neg h19] at hs
      refine Rc.goL mt_1263 5 (f2 := (if (M2.1 281 (Int32.toNatClampNeg x1)) = (-1 : Int32) then 62 else 18, [.ref 280, .int x1, .int x2, .int x3, .int x4], [], gm M2)) (b := (ib 6 x1 && true)) rfl hb4 ?_
      rw [if_neg h19]
      refine Rc.goL mt_1263 3 (f2 := (24, [.ref 280, .int x1, .int x2, .int x3, .int x4], [.int (M2.1 280 0), .int (0 : Int32), .int x2], gm M2)) (b := true) rfl rfl ?_
      obtain ⟨r5, M6, he7, hs⟩ := ob_some hs
      refine Rc.callS (i := 195) (mid' := 1201) (av := [.int x2, .int (0 : Int32), .int (M2.1 280 0)]) (rest := []) (v := some (.int r5)) (M1 := gm M6) rfl (Or.inl rfl) rfl cw_1201 rfl (Nat.le_of_ble_eq_true rfl) (qmd_in_ok _ (by omega) he7) ?_
      by_cases h18 : r5 = 0
      · rw [if_pos h18] at hs
        refine Rc.goL mt_1263 0 (f2 := (if r5 = 0 then 62 else 30, [.ref 280, .int x1, .int x2, .int x3, .int x4], [], gm M6)) (b := true) rfl rfl ?_
        rw [if_pos h18]
        refine Rc.goL mt_1263 0 (f2 := (63, [.ref 280, .int x1, .int x2, .int x3, .int x4], [.int (0 : Int32)], gm M6)) (b := true) rfl rfl ?_
        obtain ⟨e1, e2⟩ := some_p hs; subst e1; subst e2
        exact Rc.ret (v := some (.int (0 : Int32))) rfl rfl
      · rw [if_neg h18] at hs
        refine Rc.goL mt_1263 0 (f2 := (if r5 = 0 then 62 else 30, [.ref 280, .int x1, .int x2, .int x3, .int x4], [], gm M6)) (b := true) rfl rfl ?_
        rw [if_neg h18]
        refine Rc.goL mt_1263 2 (f2 := (34, [.ref 280, .int x1, .int x2, .int x3, .int x4], [.int (9 : Int32), .int (0 : Int32), .int x3], gm M6)) (b := true) rfl rfl ?_
        obtain ⟨r8, M9, he10, hs⟩ := ob_some hs
        refine Rc.callS (i := 195) (mid' := 1201) (av := [.int x3, .int (0 : Int32), .int (9 : Int32)]) (rest := []) (v := some (.int r8)) (M1 := gm M9) rfl (Or.inl rfl) rfl cw_1201 rfl (Nat.le_of_ble_eq_true rfl) (qmd_in_ok _ (by omega) he10) ?_
        by_cases h17 : r8 = 0
        · rw [if_pos h17] at hs
          refine Rc.goL mt_1263 0 (f2 := (if r8 = 0 then 62 else 40, [.ref 280, .int x1, .int x2, .int x3, .int x4], [], gm M9)) (b := true) rfl rfl ?_
          rw [if_pos h17]
          refine Rc.goL mt_1263 0 (f2 := (63, [.ref 280, .int x1, .int x2, .int x3, .int x4], [.int (0 : Int32)], gm M9)) (b := true) rfl rfl ?_
          obtain ⟨e1, e2⟩ := some_p hs; subst e1; subst e2
          exact Rc.ret (v := some (.int (0 : Int32))) rfl rfl
        · rw [if_neg h17] at hs
          refine Rc.goL mt_1263 0 (f2 := (if r8 = 0 then 62 else 40, [.ref 280, .int x1, .int x2, .int x3, .int x4], [], gm M9)) (b := true) rfl rfl ?_
          rw [if_neg h17]
          refine Rc.goL mt_1263 2 (f2 := (46, [.ref 280, .int x1, .int x2, .int x3, .int x4], [.int (10000 : Int32), .int (0 : Int32), .int x4], gm M9)) (b := true) rfl rfl ?_
          obtain ⟨r11, M12, he13, hs⟩ := ob_some hs
          refine Rc.callS (i := 195) (mid' := 1201) (av := [.int x4, .int (0 : Int32), .int (10000 : Int32)]) (rest := []) (v := some (.int r11)) (M1 := gm M12) rfl (Or.inl rfl) rfl cw_1201 rfl (Nat.le_of_ble_eq_true rfl) (qmd_in_ok _ (by omega) he13) ?_
          by_cases h16 : r11 = 0
          · rw [if_pos h16] at hs
            refine Rc.goL mt_1263 0 (f2 := (if r11 = 0 then 62 else 52, [.ref 280, .int x1, .int x2, .int x3, .int x4], [], gm M12)) (b := true) rfl rfl ?_
            rw [if_pos h16]
            refine Rc.goL mt_1263 0 (f2 := (63, [.ref 280, .int x1, .int x2, .int x3, .int x4], [.int (0 : Int32)], gm M12)) (b := true) rfl rfl ?_
            obtain ⟨e1, e2⟩ := some_p hs; subst e1; subst e2
            exact Rc.ret (v := some (.int (0 : Int32))) rfl rfl
          · rw [if_neg h16] at hs
            refine Rc.goL mt_1263 0 (f2 := (if r11 = 0 then 62 else 52, [.ref 280, .int x1, .int x2, .int x3, .int x4], [], gm M12)) (b := true) rfl rfl ?_
            rw [if_neg h16]
            by_cases h15 : (M12.1 280 61) = (200 : Int32)
            · rw [if_pos h15] at hs
              refine Rc.goL mt_1263 3 (f2 := (if (M12.1 280 61) = (200 : Int32) then 62 else 64, [.ref 280, .int x1, .int x2, .int x3, .int x4], [], gm M12)) (b := true) rfl rfl ?_
              rw [if_pos h15]
              refine Rc.goL mt_1263 0 (f2 := (63, [.ref 280, .int x1, .int x2, .int x3, .int x4], [.int (0 : Int32)], gm M12)) (b := true) rfl rfl ?_
              obtain ⟨e1, e2⟩ := some_p hs; subst e1; subst e2
              exact Rc.ret (v := some (.int (0 : Int32))) rfl rfl
            · rw [if_neg h15] at hs
              refine Rc.goL mt_1263 3 (f2 := (if (M12.1 280 61) = (200 : Int32) then 62 else 64, [.ref 280, .int x1, .int x2, .int x3, .int x4], [], gm M12)) (b := true) rfl rfl ?_
              rw [if_neg h15]
              obtain ⟨hb14, hs⟩ := ck_some hs
              obtain ⟨hb14_0, hb14⟩ := and_t hb14
              obtain ⟨hb14_1, hb14⟩ := and_t hb14
              obtain ⟨hb14_2, hb14⟩ := and_t hb14
              obtain ⟨hb14_3, hb14⟩ := and_t hb14
              refine Rc.goL mt_1263 5 (f2 := (74, [.ref 280, .int x1, .int x2, .int x3, .int x4], [], gm (wI M12 320 (Int32.toNatClampNeg (M12.1 280 61)) x1))) (b := (ib 200 (M12.1 280 61) && true)) rfl (and_i hb14_0 rfl) ?_
              refine Rc.goL mt_1263 5 (f2 := (84, [.ref 280, .int x1, .int x2, .int x3, .int x4], [], gm (wI (wI M12 320 (Int32.toNatClampNeg (M12.1 280 61)) x1) 321 (Int32.toNatClampNeg (M12.1 280 61)) x2))) (b := (ib 200 (M12.1 280 61) && true)) rfl (and_i hb14_1 rfl) ?_
              refine Rc.goL mt_1263 5 (f2 := (94, [.ref 280, .int x1, .int x2, .int x3, .int x4], [], gm (wI (wI (wI M12 320 (Int32.toNatClampNeg (M12.1 280 61)) x1) 321 (Int32.toNatClampNeg (M12.1 280 61)) x2) 322 (Int32.toNatClampNeg (M12.1 280 61)) x3))) (b := (ib 200 (M12.1 280 61) && true)) rfl (and_i hb14_2 rfl) ?_
              refine Rc.goL mt_1263 5 (f2 := (105, [.ref 280, .int x1, .int x2, .int x3, .int x4], [], gm (wI (wI (wI (wI M12 320 (Int32.toNatClampNeg (M12.1 280 61)) x1) 321 (Int32.toNatClampNeg (M12.1 280 61)) x2) 322 (Int32.toNatClampNeg (M12.1 280 61)) x3) 323 (Int32.toNatClampNeg (M12.1 280 61)) x4))) (b := (ib 200 (M12.1 280 61) && true)) rfl (and_i hb14_3 rfl) ?_
              refine Rc.goL mt_1263 5 (f2 := (115, [.ref 280, .int x1, .int x2, .int x3, .int x4], [], gm (wI (wI (wI (wI (wI M12 320 (Int32.toNatClampNeg (M12.1 280 61)) x1) 321 (Int32.toNatClampNeg (M12.1 280 61)) x2) 322 (Int32.toNatClampNeg (M12.1 280 61)) x3) 323 (Int32.toNatClampNeg (M12.1 280 61)) x4) 280 61 ((M12.1 280 61) + (1 : Int32))))) (b := true) rfl rfl ?_
              refine Rc.goL mt_1263 0 (f2 := (116, [.ref 280, .int x1, .int x2, .int x3, .int x4], [.int (1 : Int32)], gm (wI (wI (wI (wI (wI M12 320 (Int32.toNatClampNeg (M12.1 280 61)) x1) 321 (Int32.toNatClampNeg (M12.1 280 61)) x2) 322 (Int32.toNatClampNeg (M12.1 280 61)) x3) 323 (Int32.toNatClampNeg (M12.1 280 61)) x4) 280 61 ((M12.1 280 61) + (1 : Int32))))) (b := true) rfl rfl ?_
              obtain ⟨e1, e2⟩ := some_p hs; subst e1; subst e2
              exact Rc.ret (v := some (.int (1 : Int32))) rfl rfl
def qmd_booksOf_L2 (k29 : Int32 → SM → Option (Unit × SM)) : Nat → Int32 → Int32 → SM → Option (Unit × SM)
  | 0, _, _, _ => none
  | n + 1, x1, x2, M =>
    if x2 < (5200 : Int32) then
    (ck (ib 5200 x2 && (ib 5200 x2 && true)) (
      qmd_booksOf_L2 k29 n x1 (x2 + (1 : Int32)) (wI (wI M 324 (Int32.toNatClampNeg x2) (0 : Int32)) 325 (Int32.toNatClampNeg x2) (0 : Int32)))) else
    (k29 x1 M)
def qmd_booksOf_L31 (k82 : Int32 → SM → Option (Unit × SM)) : Nat → Int32 → Int32 → SM → Option (Unit × SM)
  | 0, _, _, _ => none
  | n + 1, x1, x2, M =>
    if x2 < (M.1 280 61) then
    (ck (ib 200 x2 && true) (
      if (M.1 320 (Int32.toNatClampNeg x2)) = x1 then
      (ck (ib 200 x2 && (ib 200 x2 && (ib 200 x2 && (ib 5200 (((10 : Int32) * (M.1 321 (Int32.toNatClampNeg x2))) + (M.1 322 (Int32.toNatClampNeg x2))) && true)))) (
        qmd_booksOf_L31 k82 n x1 (x2 + (1 : Int32)) (wI M 324 (Int32.toNatClampNeg (((10 : Int32) * (M.1 321 (Int32.toNatClampNeg x2))) + (M.1 322 (Int32.toNatClampNeg x2)))) (M.1 323 (Int32.toNatClampNeg x2))))) else
      (qmd_booksOf_L31 k82 n x1 (x2 + (1 : Int32)) M))) else
    (k82 x1 M)
def qmd_booksOf_L116 (k186 : Int32 → Int32 → SM → Option (Unit × SM)) : Nat → Int32 → Int32 → Int32 → SM → Option (Unit × SM)
  | 0, _, _, _, _ => none
  | n + 1, x1, x2, x3, M =>
    if (M.1 280 0) < x3 then
    (k186 x1 x2 M) else
    (ck (ib 520 x3 && true) (
      if (M.1 318 (Int32.toNatClampNeg x3)) = (-1 : Int32) then
      (qmd_booksOf_L116 k186 n x1 x2 (x3 + (1 : Int32)) M) else
      (ck (ib 300 (M.1 318 (Int32.toNatClampNeg x3)) && (ib 300 (M.1 318 (Int32.toNatClampNeg x3)) && (ib 5200 (((10 : Int32) * x3) + (M.1 312 (Int32.toNatClampNeg (M.1 318 (Int32.toNatClampNeg x3))))) && (ib 300 (M.1 318 (Int32.toNatClampNeg x3)) && (ib 5200 (((10 : Int32) * x3) + (M.1 312 (Int32.toNatClampNeg (M.1 318 (Int32.toNatClampNeg x3))))) && true))))) (
        qmd_booksOf_L116 k186 n x1 x2 (x3 + (1 : Int32)) (wI M 325 (Int32.toNatClampNeg (((10 : Int32) * x3) + (M.1 312 (Int32.toNatClampNeg (M.1 318 (Int32.toNatClampNeg x3)))))) ((M.1 325 (Int32.toNatClampNeg (((10 : Int32) * x3) + (M.1 312 (Int32.toNatClampNeg (M.1 318 (Int32.toNatClampNeg x3))))))) + (M.1 313 (Int32.toNatClampNeg (M.1 318 (Int32.toNatClampNeg x3))))))))))
def qmd_booksOf_L84 : Nat → Int32 → Int32 → SM → Option (Unit × SM)
  | 0, _, _, _ => none
  | n + 1, x1, x2, M =>
    if x2 < (M.1 280 3) then
    (ck (ib 16 x2 && true) (
      if (M.1 284 (Int32.toNatClampNeg x2)) = x1 then
      (ob (qmd_goesThrough x2 (M.1 280 0) M) (fun _ M12 =>
        qmd_booksOf_L116 (fun y1_19 y2_20 M21 =>
        qmd_booksOf_L84 n y1_19 (y2_20 + (1 : Int32)) M21) FU x1 x2 (0 : Int32) M12)) else
      (qmd_booksOf_L84 n x1 (x2 + (1 : Int32)) M))) else
    (some ((), M))
def qmd_booksOf (x1 : Int32) (M : SM) : Option (Unit × SM) :=
  qmd_booksOf_L2 (fun y1_3 M4 =>
  qmd_booksOf_L31 (fun y1_9 M10 =>
    qmd_booksOf_L84 FU y1_9 (0 : Int32) M10) FU y1_3 (0 : Int32) M4) FU x1 (0 : Int32) M
theorem mt_1264 : MT 1264 K_1264 LN_12 := ⟨rfl, rfl, by decide +kernel⟩
theorem okm_1264 : OKm 1264 := ⟨⟨vE_1264, okL_12, by decide +kernel⟩, by decide +kernel, by decide +kernel, by decide +kernel⟩
set_option maxRecDepth 20000 in
theorem qmd_booksOf_L2_ok (d : Nat) (hd : 4 ≤ d + 1) (k29 : Int32 → SM → Option (Unit × SM)) (hk29 : ∀ (y1 : Int32) (M : SM) (r : Unit) (Mz : SM), k29 y1 M = some (r, Mz) → Rc (d + 1) 1264 (29, [.ref 280, .int y1, UU, UU, UU], [], gm M) (none, gm Mz)) : ∀ (n : Nat) (x1 : Int32) (x2 : Int32) (M : SM) (r : Unit) (Mz : SM), qmd_booksOf_L2 k29 n x1 x2 M = some (r, Mz) → Rc (d + 1) 1264 (2, [.ref 280, .int x1, .int x2, UU, UU], [], gm M) (none, gm Mz) := by
  intro n
  induction n with
  | zero => intro x1 x2 M r Mz hs; cases hs
  | succ n ih =>
    intro x1 x2 M r Mz hs
    rw [qmd_booksOf_L2] at hs
    by_cases h2 : x2 < (5200 : Int32)
    · rw [if_pos h2] at hs
      refine Rc.goL mt_1264 2 (f2 := (if x2 < (5200 : Int32) then 9 else 29, [.ref 280, .int x1, .int x2, UU, UU], [], gm M)) (b := true) rfl rfl ?_
      rw [if_pos h2]
      obtain ⟨hb1, hs⟩ := ck_some hs
      obtain ⟨hb1_0, hb1⟩ := and_t hb1
      obtain ⟨hb1_1, hb1⟩ := and_t hb1
      refine Rc.goL mt_1264 4 (f2 := (16, [.ref 280, .int x1, .int x2, UU, UU], [], gm (wI M 324 (Int32.toNatClampNeg x2) (0 : Int32)))) (b := (ib 5200 x2 && true)) rfl (and_i hb1_0 rfl) ?_
      refine Rc.goL mt_1264 4 (f2 := (23, [.ref 280, .int x1, .int x2, UU, UU], [], gm (wI (wI M 324 (Int32.toNatClampNeg x2) (0 : Int32)) 325 (Int32.toNatClampNeg x2) (0 : Int32)))) (b := (ib 5200 x2 && true)) rfl (and_i hb1_1 rfl) ?_
      refine Rc.goL mt_1264 1 (f2 := (2, [.ref 280, .int x1, .int (x2 + (1 : Int32)), UU, UU], [], gm (wI (wI M 324 (Int32.toNatClampNeg x2) (0 : Int32)) 325 (Int32.toNatClampNeg x2) (0 : Int32)))) (b := true) rfl rfl ?_
      refine Rc.less (ls2 := [.ref 280, .int x1, .int (x2 + (1 : Int32)), UU, UU]) (by refine ⟨Or.inr rfl, Or.inr rfl, Or.inr rfl, Or.inl rfl, Or.inl rfl, trivial⟩) ?_
      exact ih x1 (x2 + (1 : Int32)) _ _ _ hs
    · rw [if_neg h2] at hs
      refine Rc.goL mt_1264 2 (f2 := (if x2 < (5200 : Int32) then 9 else 29, [.ref 280, .int x1, .int x2, UU, UU], [], gm M)) (b := true) rfl rfl ?_
      rw [if_neg h2]
      refine Rc.less (ls2 := [.ref 280, .int x1, UU, UU, UU]) (by refine ⟨Or.inr rfl, Or.inr rfl, Or.inl rfl, Or.inl rfl, Or.inl rfl, trivial⟩) ?_
      exact hk29 x1 _ _ _ hs
set_option maxRecDepth 20000 in
theorem qmd_booksOf_L31_ok (d : Nat) (hd : 4 ≤ d + 1) (k82 : Int32 → SM → Option (Unit × SM)) (hk82 : ∀ (y1 : Int32) (M : SM) (r : Unit) (Mz : SM), k82 y1 M = some (r, Mz) → Rc (d + 1) 1264 (82, [.ref 280, .int y1, UU, UU, UU], [], gm M) (none, gm Mz)) : ∀ (n : Nat) (x1 : Int32) (x2 : Int32) (M : SM) (r : Unit) (Mz : SM), qmd_booksOf_L31 k82 n x1 x2 M = some (r, Mz) → Rc (d + 1) 1264 (31, [.ref 280, .int x1, .int x2, UU, UU], [], gm M) (none, gm Mz) := by
  intro n
  induction n with
  | zero => intro x1 x2 M r Mz hs; cases hs
  | succ n ih =>
    intro x1 x2 M r Mz hs
    rw [qmd_booksOf_L31] at hs
    by_cases h8 : x2 < (M.1 280 61)
    · rw [if_pos h8] at hs
      refine Rc.goL mt_1264 3 (f2 := (if x2 < (M.1 280 61) then 39 else 82, [.ref 280, .int x1, .int x2, UU, UU], [], gm M)) (b := true) rfl rfl ?_
      rw [if_pos h8]
      obtain ⟨hb5, hs⟩ := ck_some hs
      by_cases h7 : (M.1 320 (Int32.toNatClampNeg x2)) = x1
      · rw [if_pos h7] at hs
        refine Rc.goL mt_1264 5 (f2 := (if (M.1 320 (Int32.toNatClampNeg x2)) = x1 then 49 else 76, [.ref 280, .int x1, .int x2, UU, UU], [], gm M)) (b := (ib 200 x2 && true)) rfl hb5 ?_
        rw [if_pos h7]
        obtain ⟨hb6, hs⟩ := ck_some hs
        obtain ⟨hb6_0, hb6⟩ := and_t hb6
        obtain ⟨hb6_1, hb6⟩ := and_t hb6
        obtain ⟨hb6_2, hb6⟩ := and_t hb6
        obtain ⟨hb6_3, hb6⟩ := and_t hb6
        refine Rc.goL mt_1264 6 (f2 := (61, [.ref 280, .int x1, .int x2, UU, UU], [.int (M.1 321 (Int32.toNatClampNeg x2)), .int (10 : Int32), .ref 324], gm M)) (b := (ib 200 x2 && true)) rfl (and_i hb6_0 rfl) ?_
        refine Rc.goL mt_1264 6 (f2 := (70, [.ref 280, .int x1, .int x2, UU, UU], [.ref 280, .int (((10 : Int32) * (M.1 321 (Int32.toNatClampNeg x2))) + (M.1 322 (Int32.toNatClampNeg x2))), .ref 324], gm M)) (b := (ib 200 x2 && true)) rfl (and_i hb6_1 rfl) ?_
        refine Rc.goL mt_1264 3 (f2 := (76, [.ref 280, .int x1, .int x2, UU, UU], [], gm (wI M 324 (Int32.toNatClampNeg (((10 : Int32) * (M.1 321 (Int32.toNatClampNeg x2))) + (M.1 322 (Int32.toNatClampNeg x2)))) (M.1 323 (Int32.toNatClampNeg x2))))) (b := (ib 200 x2 && (ib 5200 (((10 : Int32) * (M.1 321 (Int32.toNatClampNeg x2))) + (M.1 322 (Int32.toNatClampNeg x2))) && true))) rfl (and_i hb6_2 (and_i hb6_3 rfl)) ?_
        refine Rc.goL mt_1264 1 (f2 := (31, [.ref 280, .int x1, .int (x2 + (1 : Int32)), UU, UU], [], gm (wI M 324 (Int32.toNatClampNeg (((10 : Int32) * (M.1 321 (Int32.toNatClampNeg x2))) + (M.1 322 (Int32.toNatClampNeg x2)))) (M.1 323 (Int32.toNatClampNeg x2))))) (b := true) rfl rfl ?_
        refine Rc.less (ls2 := [.ref 280, .int x1, .int (x2 + (1 : Int32)), UU, UU]) (by refine ⟨Or.inr rfl, Or.inr rfl, Or.inr rfl, Or.inl rfl, Or.inl rfl, trivial⟩) ?_
        exact ih x1 (x2 + (1 : Int32)) _ _ _ hs
      · rw [if_neg h7] at hs
        refine Rc.goL mt_1264 5 (f2 := (if (M.1 320 (Int32.toNatClampNeg x2)) = x1 then 49 else 76, [.ref 280, .int x1, .int x2, UU, UU], [], gm M)) (b := (ib 200 x2 && true)) rfl hb5 ?_
        rw [if_neg h7]
        refine Rc.goL mt_1264 1 (f2 := (31, [.ref 280, .int x1, .int (x2 + (1 : Int32)), UU, UU], [], gm M)) (b := true) rfl rfl ?_
        refine Rc.less (ls2 := [.ref 280, .int x1, .int (x2 + (1 : Int32)), UU, UU]) (by refine ⟨Or.inr rfl, Or.inr rfl, Or.inr rfl, Or.inl rfl, Or.inl rfl, trivial⟩) ?_
        exact ih x1 (x2 + (1 : Int32)) _ _ _ hs
    · rw [if_neg h8] at hs
      refine Rc.goL mt_1264 3 (f2 := (if x2 < (M.1 280 61) then 39 else 82, [.ref 280, .int x1, .int x2, UU, UU], [], gm M)) (b := true) rfl rfl ?_
      rw [if_neg h8]
      refine Rc.less (ls2 := [.ref 280, .int x1, UU, UU, UU]) (by refine ⟨Or.inr rfl, Or.inr rfl, Or.inl rfl, Or.inl rfl, Or.inl rfl, trivial⟩) ?_
      exact hk82 x1 _ _ _ hs
set_option maxRecDepth 20000 in
theorem qmd_booksOf_L116_ok (d : Nat) (hd : 4 ≤ d + 1) (k186 : Int32 → Int32 → SM → Option (Unit × SM)) (hk186 : ∀ (y1 : Int32) (y2 : Int32) (M : SM) (r : Unit) (Mz : SM), k186 y1 y2 M = some (r, Mz) → Rc (d + 1) 1264 (186, [.ref 280, .int y1, .int y2, UU, UU], [], gm M) (none, gm Mz)) : ∀ (n : Nat) (x1 : Int32) (x2 : Int32) (x3 : Int32) (M : SM) (r : Unit) (Mz : SM), qmd_booksOf_L116 k186 n x1 x2 x3 M = some (r, Mz) → Rc (d + 1) 1264 (116, [.ref 280, .int x1, .int x2, .int x3, UU], [], gm M) (none, gm Mz) := by
  intro n
  induction n with
  | zero => intro x1 x2 x3 M r Mz hs; cases hs
  | succ n ih =>
    intro x1 x2 x3 M r Mz hs
    rw [qmd_booksOf_L116] at hs
    by_cases h18 : (M.1 280 0) < x3
    · rw [if_pos h18] at hs
      refine Rc.goL mt_1264 3 (f2 := (if (M.1 280 0) < x3 then 186 else 124, [.ref 280, .int x1, .int x2, .int x3, UU], [], gm M)) (b := true) rfl rfl ?_
      rw [if_pos h18]
      refine Rc.less (ls2 := [.ref 280, .int x1, .int x2, UU, UU]) (by refine ⟨Or.inr rfl, Or.inr rfl, Or.inr rfl, Or.inl rfl, Or.inl rfl, trivial⟩) ?_
      exact hk186 x1 x2 _ _ _ hs
    · rw [if_neg h18] at hs
      refine Rc.goL mt_1264 3 (f2 := (if (M.1 280 0) < x3 then 186 else 124, [.ref 280, .int x1, .int x2, .int x3, UU], [], gm M)) (b := true) rfl rfl ?_
      rw [if_neg h18]
      obtain ⟨hb15, hs⟩ := ck_some hs
      obtain ⟨hb15_0, hb15⟩ := and_t hb15
      refine Rc.goL mt_1264 6 (f2 := (135, [.ref 280, .int x1, .int x2, .int x3, .int (M.1 318 (Int32.toNatClampNeg x3))], [.int (-1 : Int32), .int (M.1 318 (Int32.toNatClampNeg x3))], gm M)) (b := (ib 520 x3 && true)) rfl (and_i hb15_0 rfl) ?_
      by_cases h17 : (M.1 318 (Int32.toNatClampNeg x3)) = (-1 : Int32)
      · rw [if_pos h17] at hs
        refine Rc.goL mt_1264 0 (f2 := (if (M.1 318 (Int32.toNatClampNeg x3)) = (-1 : Int32) then 180 else 138, [.ref 280, .int x1, .int x2, .int x3, .int (M.1 318 (Int32.toNatClampNeg x3))], [], gm M)) (b := true) rfl rfl ?_
        rw [if_pos h17]
        refine Rc.goL mt_1264 1 (f2 := (116, [.ref 280, .int x1, .int x2, .int (x3 + (1 : Int32)), .int (M.1 318 (Int32.toNatClampNeg x3))], [], gm M)) (b := true) rfl rfl ?_
        refine Rc.less (ls2 := [.ref 280, .int x1, .int x2, .int (x3 + (1 : Int32)), UU]) (by refine ⟨Or.inr rfl, Or.inr rfl, Or.inr rfl, Or.inr rfl, Or.inl rfl, trivial⟩) ?_
        exact ih x1 x2 (x3 + (1 : Int32)) _ _ _ hs
      · rw [if_neg h17] at hs
        refine Rc.goL mt_1264 0 (f2 := (if (M.1 318 (Int32.toNatClampNeg x3)) = (-1 : Int32) then 180 else 138, [.ref 280, .int x1, .int x2, .int x3, .int (M.1 318 (Int32.toNatClampNeg x3))], [], gm M)) (b := true) rfl rfl ?_
        rw [if_neg h17]
        obtain ⟨hb16, hs⟩ := ck_some hs
        obtain ⟨hb16_0, hb16⟩ := and_t hb16
        obtain ⟨hb16_1, hb16⟩ := and_t hb16
        obtain ⟨hb16_2, hb16⟩ := and_t hb16
        obtain ⟨hb16_3, hb16⟩ := and_t hb16
        obtain ⟨hb16_4, hb16⟩ := and_t hb16
        refine Rc.goL mt_1264 6 (f2 := (150, [.ref 280, .int x1, .int x2, .int x3, .int (M.1 318 (Int32.toNatClampNeg x3))], [.ref 312, .int ((10 : Int32) * x3), .ref 325], gm M)) (b := true) rfl rfl ?_
        refine Rc.goL mt_1264 6 (f2 := (161, [.ref 280, .int x1, .int x2, .int x3, .int (M.1 318 (Int32.toNatClampNeg x3))], [.int x3, .int (10 : Int32), .ref 325, .int (((10 : Int32) * x3) + (M.1 312 (Int32.toNatClampNeg (M.1 318 (Int32.toNatClampNeg x3))))), .ref 325], gm M)) (b := (ib 300 (M.1 318 (Int32.toNatClampNeg x3)) && true)) rfl (and_i hb16_0 rfl) ?_
        refine Rc.goL mt_1264 6 (f2 := (171, [.ref 280, .int x1, .int x2, .int x3, .int (M.1 318 (Int32.toNatClampNeg x3))], [.int (M.1 325 (Int32.toNatClampNeg (((10 : Int32) * x3) + (M.1 312 (Int32.toNatClampNeg (M.1 318 (Int32.toNatClampNeg x3))))))), .int (((10 : Int32) * x3) + (M.1 312 (Int32.toNatClampNeg (M.1 318 (Int32.toNatClampNeg x3))))), .ref 325], gm M)) (b := (ib 300 (M.1 318 (Int32.toNatClampNeg x3)) && (ib 5200 (((10 : Int32) * x3) + (M.1 312 (Int32.toNatClampNeg (M.1 318 (Int32.toNatClampNeg x3))))) && true))) rfl (and_i hb16_1 (and_i hb16_2 rfl)) ?_
        refine Rc.goL mt_1264 5 (f2 := (180, [.ref 280, .int x1, .int x2, .int x3, .int (M.1 318 (Int32.toNatClampNeg x3))], [], gm (wI M 325 (Int32.toNatClampNeg (((10 : Int32) * x3) + (M.1 312 (Int32.toNatClampNeg (M.1 318 (Int32.toNatClampNeg x3)))))) ((M.1 325 (Int32.toNatClampNeg (((10 : Int32) * x3) + (M.1 312 (Int32.toNatClampNeg (M.1 318 (Int32.toNatClampNeg x3))))))) + (M.1 313 (Int32.toNatClampNeg (M.1 318 (Int32.toNatClampNeg x3)))))))) (b := (ib 300 (M.1 318 (Int32.toNatClampNeg x3)) && (ib 5200 (((10 : Int32) * x3) + (M.1 312 (Int32.toNatClampNeg (M.1 318 (Int32.toNatClampNeg x3))))) && true))) rfl (and_i hb16_3 (and_i hb16_4 rfl)) ?_
        refine Rc.goL mt_1264 1 (f2 := (116, [.ref 280, .int x1, .int x2, .int (x3 + (1 : Int32)), .int (M.1 318 (Int32.toNatClampNeg x3))], [], gm (wI M 325 (Int32.toNatClampNeg (((10 : Int32) * x3) + (M.1 312 (Int32.toNatClampNeg (M.1 318 (Int32.toNatClampNeg x3)))))) ((M.1 325 (Int32.toNatClampNeg (((10 : Int32) * x3) + (M.1 312 (Int32.toNatClampNeg (M.1 318 (Int32.toNatClampNeg x3))))))) + (M.1 313 (Int32.toNatClampNeg (M.1 318 (Int32.toNatClampNeg x3)))))))) (b := true) rfl rfl ?_
        refine Rc.less (ls2 := [.ref 280, .int x1, .int x2, .int (x3 + (1 : Int32)), UU]) (by refine ⟨Or.inr rfl, Or.inr rfl, Or.inr rfl, Or.inr rfl, Or.inl rfl, trivial⟩) ?_
        exact ih x1 x2 (x3 + (1 : Int32)) _ _ _ hs
set_option maxRecDepth 20000 in
theorem qmd_booksOf_L84_ok (d : Nat) (hd : 4 ≤ d + 1) : ∀ (n : Nat) (x1 : Int32) (x2 : Int32) (M : SM) (r : Unit) (Mz : SM), qmd_booksOf_L84 n x1 x2 M = some (r, Mz) → Rc (d + 1) 1264 (84, [.ref 280, .int x1, .int x2, UU, UU], [], gm M) (none, gm Mz) := by
  intro n
  induction n with
  | zero => intro x1 x2 M r Mz hs; cases hs
  | succ n ih =>
    intro x1 x2 M r Mz hs
    rw [qmd_booksOf_L84] at hs
    by_cases h23 : x2 < (M.1 280 3)
    · rw [if_pos h23] at hs
      refine Rc.goL mt_1264 3 (f2 := (if x2 < (M.1 280 3) then 92 else 192, [.ref 280, .int x1, .int x2, UU, UU], [], gm M)) (b := true) rfl rfl ?_
      rw [if_pos h23]
      obtain ⟨hb11, hs⟩ := ck_some hs
      by_cases h22 : (M.1 284 (Int32.toNatClampNeg x2)) = x1
      · rw [if_pos h22] at hs
        refine Rc.goL mt_1264 5 (f2 := (if (M.1 284 (Int32.toNatClampNeg x2)) = x1 then 105 else 102, [.ref 280, .int x1, .int x2, UU, UU], [], gm M)) (b := (ib 16 x2 && true)) rfl hb11 ?_
        rw [if_pos h22]
        refine Rc.goL mt_1264 3 (f2 := (111, [.ref 280, .int x1, .int x2, UU, UU], [.int (M.1 280 0), .int x2, .ref 280], gm M)) (b := true) rfl rfl ?_
        obtain ⟨u14, M12, he13, hs⟩ := ob_some hs
        refine Rc.callV (i := 389) (mid' := 1250) (av := [.int x2, .int (M.1 280 0)]) (rest := []) (v := none) (M1 := gm M12) (a := 280) rfl rfl rfl cw_1250 rfl (Nat.le_of_ble_eq_true rfl) rfl (Nat.le_of_ble_eq_true rfl) (qmd_goesThrough_ok _ (by omega) he13) ?_
        refine Rc.goL mt_1264 1 (f2 := (116, [.ref 280, .int x1, .int x2, .int (0 : Int32), UU], [], gm M12)) (b := true) rfl rfl ?_
        refine Rc.less (ls2 := [.ref 280, .int x1, .int x2, .int (0 : Int32), UU]) (by refine ⟨Or.inr rfl, Or.inr rfl, Or.inr rfl, Or.inr rfl, Or.inl rfl, trivial⟩) ?_
        refine qmd_booksOf_L116_ok d hd _ (fun y1_19 y2_20 M21 r Mz hs => ?_) _ x1 x2 (0 : Int32) _ _ _ hs
        · refine Rc.goL mt_1264 1 (f2 := (84, [.ref 280, .int y1_19, .int (y2_20 + (1 : Int32)), UU, UU], [], gm M21)) (b := true) rfl rfl ?_
          refine Rc.less (ls2 := [.ref 280, .int y1_19, .int (y2_20 + (1 : Int32)), UU, UU]) (by refine ⟨Or.inr rfl, Or.inr rfl, Or.inr rfl, Or.inl rfl, Or.inl rfl, trivial⟩) ?_
          exact ih y1_19 (y2_20 + (1 : Int32)) _ _ _ hs
      · rw [if_neg h22] at hs
        refine Rc.goL mt_1264 5 (f2 := (if (M.1 284 (Int32.toNatClampNeg x2)) = x1 then 105 else 102, [.ref 280, .int x1, .int x2, UU, UU], [], gm M)) (b := (ib 16 x2 && true)) rfl hb11 ?_
        rw [if_neg h22]
        refine Rc.goL mt_1264 0 (f2 := (186, [.ref 280, .int x1, .int x2, UU, UU], [], gm M)) (b := true) rfl rfl ?_
        refine Rc.goL mt_1264 1 (f2 := (84, [.ref 280, .int x1, .int (x2 + (1 : Int32)), UU, UU], [], gm M)) (b := true) rfl rfl ?_
        refine Rc.less (ls2 := [.ref 280, .int x1, .int (x2 + (1 : Int32)), UU, UU]) (by refine ⟨Or.inr rfl, Or.inr rfl, Or.inr rfl, Or.inl rfl, Or.inl rfl, trivial⟩) ?_
        exact ih x1 (x2 + (1 : Int32)) _ _ _ hs
    · rw [if_neg h23] at hs
      refine Rc.goL mt_1264 3 (f2 := (if x2 < (M.1 280 3) then 92 else 192, [.ref 280, .int x1, .int x2, UU, UU], [], gm M)) (b := true) rfl rfl ?_
      rw [if_neg h23]
      obtain ⟨e1, e2⟩ := some_p hs; subst e1; subst e2
      exact Rc.ret (v := none) rfl rfl
set_option maxRecDepth 20000 in
theorem qmd_booksOf_ok (d : Nat) (hd : 4 ≤ d) {x1 : Int32} {M : SM} {r : Unit} {Mz : SM} (hs : qmd_booksOf x1 M = some (r, Mz)) : Ex d 1264 [.ref 280, .int x1] (gm M) (none, gm Mz) := by
  obtain ⟨d, rfl⟩ : ∃ d0, d = d0 + 1 := ⟨d - 1, by omega⟩
  refine Ex.of okm_1264 (by omega) (Nat.le_of_ble_eq_true rfl) ?_
  show Rc (d + 1) 1264 (0, [.ref 280, .int x1, UU, UU, UU], [], gm M) _
  unfold qmd_booksOf at hs
  refine Rc.goL mt_1264 1 (f2 := (2, [.ref 280, .int x1, .int (0 : Int32), UU, UU], [], gm M)) (b := true) rfl rfl ?_
  refine Rc.less (ls2 := [.ref 280, .int x1, .int (0 : Int32), UU, UU]) (by refine ⟨Or.inr rfl, Or.inr rfl, Or.inr rfl, Or.inl rfl, Or.inl rfl, trivial⟩) ?_
  refine qmd_booksOf_L2_ok d hd _ (fun y1_3 M4 r Mz hs => ?_) _ x1 (0 : Int32) _ _ _ hs
  · refine Rc.goL mt_1264 1 (f2 := (31, [.ref 280, .int y1_3, .int (0 : Int32), UU, UU], [], gm M4)) (b := true) rfl rfl ?_
    refine Rc.less (ls2 := [.ref 280, .int y1_3, .int (0 : Int32), UU, UU]) (by refine ⟨Or.inr rfl, Or.inr rfl, Or.inr rfl, Or.inl rfl, Or.inl rfl, trivial⟩) ?_
    refine qmd_booksOf_L31_ok d hd _ (fun y1_9 M10 r Mz hs => ?_) _ y1_3 (0 : Int32) _ _ _ hs
    · refine Rc.goL mt_1264 1 (f2 := (84, [.ref 280, .int y1_9, .int (0 : Int32), UU, UU], [], gm M10)) (b := true) rfl rfl ?_
      refine Rc.less (ls2 := [.ref 280, .int y1_9, .int (0 : Int32), UU, UU]) (by refine ⟨Or.inr rfl, Or.inr rfl, Or.inr rfl, Or.inl rfl, Or.inl rfl, trivial⟩) ?_
      exact qmd_booksOf_L84_ok d hd _ y1_9 (0 : Int32) _ _ _ hs
def qmd_differs_L44 (k84 : Int32 → Int32 → SM → Option (Int32 × SM)) : Nat → Int32 → Int32 → Int32 → Int32 → SM → Option (Int32 × SM)
  | 0, _, _, _, _, _ => none
  | n + 1, x2, x3, x4, x5, M =>
    if x5 < ((10 : Int32) * ((M.1 280 0) + (1 : Int32))) then
    (ck (ib 5200 x5 && (ib 5200 x5 && true)) (
      if (M.1 324 (Int32.toNatClampNeg x5)) = (M.1 325 (Int32.toNatClampNeg x5)) then
      (qmd_differs_L44 k84 n x2 x3 x4 (x5 + (1 : Int32)) M) else
      (if x4 = x2 then
        (k84 x3 x5 M) else
        (qmd_differs_L44 k84 n x2 x3 (x4 + (1 : Int32)) (x5 + (1 : Int32)) M)))) else
    (some ((-1 : Int32), M))
def qmd_differs (x1 : Int32) (x2 : Int32) (x3 : Int32) (M : SM) : Option (Int32 × SM) :=
  ob (qmd_isMaster x1 M) (fun r1 M2 =>
  if r1 = 0 then
  (some ((-1 : Int32), M2)) else
  (ck (ib 6 x1 && true) (
    if (M2.1 281 (Int32.toNatClampNeg x1)) = (-1 : Int32) then
    (some ((-1 : Int32), M2)) else
    (if x2 < 0 then
      (some ((-1 : Int32), M2)) else
      (ob (qmd_in x3 (0 : Int32) (3 : Int32) M2) (fun r5 M6 =>
        if r5 = 0 then
        (some ((-1 : Int32), M6)) else
        (ob (qmd_booksOf x1 M6) (fun _ M8 =>
          qmd_differs_L44 (fun y3_15 y5_16 M17 =>
          if y3_15 = 0 then
            (some ((y5_16 / (10 : Int32)), M17)) else
            (if y3_15 = (1 : Int32) then
              (some ((y5_16 - y5_16 / (10 : Int32) * (10 : Int32)), M17)) else
              (if y3_15 = (2 : Int32) then
                (ck (ib 5200 y5_16 && true) (
                  some ((M17.1 324 (Int32.toNatClampNeg y5_16)), M17))) else
                (ck (ib 5200 y5_16 && true) (
                  some ((M17.1 325 (Int32.toNatClampNeg y5_16)), M17)))))) FU x2 x3 (0 : Int32) (0 : Int32) M8))))))))
theorem mt_1265 : MT 1265 K_1265 LN_12 := ⟨rfl, rfl, by decide +kernel⟩
theorem okm_1265 : OKm 1265 := ⟨⟨vE_1265, okL_12, by decide +kernel⟩, by decide +kernel, by decide +kernel, by decide +kernel⟩
set_option maxRecDepth 20000 in
theorem qmd_differs_L44_ok (d : Nat) (hd : 5 ≤ d + 1) (k84 : Int32 → Int32 → SM → Option (Int32 × SM)) (hk84 : ∀ (y3 : Int32) (y5 : Int32) (M : SM) (r : Int32) (Mz : SM), k84 y3 y5 M = some (r, Mz) → Rc (d + 1) 1265 (84, [.ref 280, UU, UU, .int y3, UU, .int y5], [], gm M) (some (.int r), gm Mz)) : ∀ (n : Nat) (x2 : Int32) (x3 : Int32) (x4 : Int32) (x5 : Int32) (M : SM) (r : Int32) (Mz : SM), qmd_differs_L44 k84 n x2 x3 x4 x5 M = some (r, Mz) → Rc (d + 1) 1265 (44, [.ref 280, UU, .int x2, .int x3, .int x4, .int x5], [], gm M) (some (.int r), gm Mz) := by
  intro n
  induction n with
  | zero => intro x2 x3 x4 x5 M r Mz hs; cases hs
  | succ n ih =>
    intro x2 x3 x4 x5 M r Mz hs
    rw [qmd_differs_L44] at hs
    refine Rc.goL mt_1265 6 (f2 := (55, [.ref 280, UU, .int x2, .int x3, .int x4, .int x5], [.int ((10 : Int32) * ((M.1 280 0) + (1 : Int32))), .int x5], gm M)) (b := true) rfl rfl ?_
    by_cases h14 : x5 < ((10 : Int32) * ((M.1 280 0) + (1 : Int32)))
    · rw [if_pos h14] at hs
      refine Rc.goL mt_1265 0 (f2 := (if x5 < ((10 : Int32) * ((M.1 280 0) + (1 : Int32))) then 58 else 144, [.ref 280, UU, .int x2, .int x3, .int x4, .int x5], [], gm M)) (b := true) rfl rfl ?_
      rw [if_pos h14]
      obtain ⟨hb11, hs⟩ := ck_some hs
      obtain ⟨hb11_0, hb11⟩ := and_t hb11
      obtain ⟨hb11_1, hb11⟩ := and_t hb11
      refine Rc.goL mt_1265 6 (f2 := (71, [.ref 280, UU, .int x2, .int x3, .int x4, .int x5], [.int x5, .ref 325, .int (M.1 324 (Int32.toNatClampNeg x5))], gm M)) (b := (ib 5200 x5 && true)) rfl (and_i hb11_0 rfl) ?_
      by_cases h13 : (M.1 324 (Int32.toNatClampNeg x5)) = (M.1 325 (Int32.toNatClampNeg x5))
      · rw [if_pos h13] at hs
        refine Rc.goL mt_1265 1 (f2 := (if (M.1 324 (Int32.toNatClampNeg x5)) = (M.1 325 (Int32.toNatClampNeg x5)) then 75 else 78, [.ref 280, UU, .int x2, .int x3, .int x4, .int x5], [], gm M)) (b := (ib 5200 x5 && true)) rfl (and_i hb11_1 rfl) ?_
        rw [if_pos h13]
        refine Rc.goL mt_1265 0 (f2 := (138, [.ref 280, UU, .int x2, .int x3, .int x4, .int x5], [], gm M)) (b := true) rfl rfl ?_
        refine Rc.goL mt_1265 1 (f2 := (44, [.ref 280, UU, .int x2, .int x3, .int x4, .int (x5 + (1 : Int32))], [], gm M)) (b := true) rfl rfl ?_
        refine Rc.less (ls2 := [.ref 280, UU, .int x2, .int x3, .int x4, .int (x5 + (1 : Int32))]) (by refine ⟨Or.inr rfl, Or.inl rfl, Or.inr rfl, Or.inr rfl, Or.inr rfl, Or.inr rfl, trivial⟩) ?_
        exact ih x2 x3 x4 (x5 + (1 : Int32)) _ _ _ hs
      · rw [if_neg h13] at hs
        refine Rc.goL mt_1265 1 (f2 := (if (M.1 324 (Int32.toNatClampNeg x5)) = (M.1 325 (Int32.toNatClampNeg x5)) then 75 else 78, [.ref 280, UU, .int x2, .int x3, .int x4, .int x5], [], gm M)) (b := (ib 5200 x5 && true)) rfl (and_i hb11_1 rfl) ?_
        rw [if_neg h13]
        by_cases h12 : x4 = x2
        · rw [if_pos h12] at hs
          refine Rc.goL mt_1265 2 (f2 := (if x4 = x2 then 84 else 132, [.ref 280, UU, .int x2, .int x3, .int x4, .int x5], [], gm M)) (b := true) rfl rfl ?_
          rw [if_pos h12]
          refine Rc.less (ls2 := [.ref 280, UU, UU, .int x3, UU, .int x5]) (by refine ⟨Or.inr rfl, Or.inl rfl, Or.inl rfl, Or.inr rfl, Or.inl rfl, Or.inr rfl, trivial⟩) ?_
          exact hk84 x3 x5 _ _ _ hs
        · rw [if_neg h12] at hs
          refine Rc.goL mt_1265 2 (f2 := (if x4 = x2 then 84 else 132, [.ref 280, UU, .int x2, .int x3, .int x4, .int x5], [], gm M)) (b := true) rfl rfl ?_
          rw [if_neg h12]
          refine Rc.goL mt_1265 3 (f2 := (138, [.ref 280, UU, .int x2, .int x3, .int (x4 + (1 : Int32)), .int x5], [], gm M)) (b := true) rfl rfl ?_
          refine Rc.goL mt_1265 1 (f2 := (44, [.ref 280, UU, .int x2, .int x3, .int (x4 + (1 : Int32)), .int (x5 + (1 : Int32))], [], gm M)) (b := true) rfl rfl ?_
          refine Rc.less (ls2 := [.ref 280, UU, .int x2, .int x3, .int (x4 + (1 : Int32)), .int (x5 + (1 : Int32))]) (by refine ⟨Or.inr rfl, Or.inl rfl, Or.inr rfl, Or.inr rfl, Or.inr rfl, Or.inr rfl, trivial⟩) ?_
          exact ih x2 x3 (x4 + (1 : Int32)) (x5 + (1 : Int32)) _ _ _ hs
    · rw [if_neg h14] at hs
      refine Rc.goL mt_1265 0 (f2 := (if x5 < ((10 : Int32) * ((M.1 280 0) + (1 : Int32))) then 58 else 144, [.ref 280, UU, .int x2, .int x3, .int x4, .int x5], [], gm M)) (b := true) rfl rfl ?_
      rw [if_neg h14]
      refine Rc.goL mt_1265 0 (f2 := (145, [.ref 280, UU, .int x2, .int x3, .int x4, .int x5], [.int (-1 : Int32)], gm M)) (b := true) rfl rfl ?_
      obtain ⟨e1, e2⟩ := some_p hs; subst e1; subst e2
      exact Rc.ret (v := some (.int (-1 : Int32))) rfl rfl
set_option maxRecDepth 20000 in
theorem qmd_differs_ok (d : Nat) (hd : 5 ≤ d) {x1 : Int32} {x2 : Int32} {x3 : Int32} {M : SM} {r : Int32} {Mz : SM} (hs : qmd_differs x1 x2 x3 M = some (r, Mz)) : Ex d 1265 [.ref 280, .int x1, .int x2, .int x3] (gm M) (some (.int r), gm Mz) := by
  obtain ⟨d, rfl⟩ : ∃ d0, d = d0 + 1 := ⟨d - 1, by omega⟩
  refine Ex.of okm_1265 (by omega) (Nat.le_of_ble_eq_true rfl) ?_
  show Rc (d + 1) 1265 (0, [.ref 280, .int x1, .int x2, .int x3, UU, UU], [], gm M) _
  unfold qmd_differs at hs
  refine Rc.goL mt_1265 1 (f2 := (2, [.ref 280, .int x1, .int x2, .int x3, UU, UU], [.int x1, .ref 280], gm M)) (b := true) rfl rfl ?_
  obtain ⟨r1, M2, he3, hs⟩ := ob_some hs
  refine Rc.callV (i := 191) (mid' := 1202) (av := [.int x1]) (rest := []) (v := some (.int r1)) (M1 := gm M2) (a := 280) rfl rfl rfl cw_1202 rfl (Nat.le_of_ble_eq_true rfl) rfl (Nat.le_of_ble_eq_true rfl) (qmd_isMaster_ok _ (by omega) he3) ?_
  by_cases h26 : r1 = 0
  · rw [if_pos h26] at hs
    refine Rc.goL mt_1265 0 (f2 := (if r1 = 0 then 31 else 8, [.ref 280, .int x1, .int x2, .int x3, UU, UU], [], gm M2)) (b := true) rfl rfl ?_
    rw [if_pos h26]
    refine Rc.goL mt_1265 0 (f2 := (32, [.ref 280, .int x1, .int x2, .int x3, UU, UU], [.int (-1 : Int32)], gm M2)) (b := true) rfl rfl ?_
    obtain ⟨e1, e2⟩ := some_p hs; subst e1; subst e2
    exact Rc.ret (v := some (.int (-1 : Int32))) rfl rfl
  · rw [if_neg h26] at hs
    refine Rc.goL mt_1265 0 (f2 := (if r1 = 0 then 31 else 8, [.ref 280, .int x1, .int x2, .int x3, UU, UU], [], gm M2)) (b := true) rfl rfl ?_
    rw [if_neg h26]
    obtain ⟨hb4, hs⟩ := ck_some hs
    by_cases h25 : (M2.1 281 (Int32.toNatClampNeg x1)) = (-1 : Int32)
    · rw [if_pos h25] at hs
      refine Rc.goL mt_1265 5 (f2 := (if (M2.1 281 (Int32.toNatClampNeg x1)) = (-1 : Int32) then 31 else 18, [.ref 280, .int x1, .int x2, .int x3, UU, UU], [], gm M2)) (b := (ib 6 x1 && true)) rfl hb4 ?_
      rw [if_pos h25]
      refine Rc.goL mt_1265 0 (f2 := (32, [.ref 280, .int x1, .int x2, .int x3, UU, UU], [.int (-1 : Int32)], gm M2)) (b := true) rfl rfl ?_
      obtain ⟨e1, e2⟩ := some_p hs; subst e1; subst e2
      exact Rc.ret (v := some (.int (-1 : Int32))) rfl rfl
    · rw [if_neg h25] at hs
      refine Rc.goL mt_1265 5 (f2 := (if (M2.1 281 (Int32.toNatClampNeg x1)) = (-1 : Int32) then 31 else 18, [.ref 280, .int x1, .int x2, .int x3, UU, UU], [], gm M2)) (b := (ib 6 x1 && true)) rfl hb4 ?_
      rw [if_neg h25]
      by_cases h24 : x2 < 0
      · rw [if_pos h24] at hs
        refine Rc.goL mt_1265 1 (f2 := (if x2 < 0 then 31 else 22, [.ref 280, .int x1, .int x2, .int x3, UU, UU], [], gm M2)) (b := true) rfl rfl ?_
        rw [if_pos h24]
        refine Rc.goL mt_1265 0 (f2 := (32, [.ref 280, .int x1, .int x2, .int x3, UU, UU], [.int (-1 : Int32)], gm M2)) (b := true) rfl rfl ?_
        obtain ⟨e1, e2⟩ := some_p hs; subst e1; subst e2
        exact Rc.ret (v := some (.int (-1 : Int32))) rfl rfl
      · rw [if_neg h24] at hs
        refine Rc.goL mt_1265 1 (f2 := (if x2 < 0 then 31 else 22, [.ref 280, .int x1, .int x2, .int x3, UU, UU], [], gm M2)) (b := true) rfl rfl ?_
        rw [if_neg h24]
        refine Rc.goL mt_1265 2 (f2 := (25, [.ref 280, .int x1, .int x2, .int x3, UU, UU], [.int (3 : Int32), .int (0 : Int32), .int x3], gm M2)) (b := true) rfl rfl ?_
        obtain ⟨r5, M6, he7, hs⟩ := ob_some hs
        refine Rc.callS (i := 195) (mid' := 1201) (av := [.int x3, .int (0 : Int32), .int (3 : Int32)]) (rest := []) (v := some (.int r5)) (M1 := gm M6) rfl (Or.inl rfl) rfl cw_1201 rfl (Nat.le_of_ble_eq_true rfl) (qmd_in_ok _ (by omega) he7) ?_
        by_cases h23 : r5 = 0
        · rw [if_pos h23] at hs
          refine Rc.goL mt_1265 0 (f2 := (if r5 = 0 then 31 else 33, [.ref 280, .int x1, .int x2, .int x3, UU, UU], [], gm M6)) (b := true) rfl rfl ?_
          rw [if_pos h23]
          refine Rc.goL mt_1265 0 (f2 := (32, [.ref 280, .int x1, .int x2, .int x3, UU, UU], [.int (-1 : Int32)], gm M6)) (b := true) rfl rfl ?_
          obtain ⟨e1, e2⟩ := some_p hs; subst e1; subst e2
          exact Rc.ret (v := some (.int (-1 : Int32))) rfl rfl
        · rw [if_neg h23] at hs
          refine Rc.goL mt_1265 0 (f2 := (if r5 = 0 then 31 else 33, [.ref 280, .int x1, .int x2, .int x3, UU, UU], [], gm M6)) (b := true) rfl rfl ?_
          rw [if_neg h23]
          refine Rc.goL mt_1265 1 (f2 := (35, [.ref 280, .int x1, .int x2, .int x3, UU, UU], [.int x1, .ref 280], gm M6)) (b := true) rfl rfl ?_
          obtain ⟨u10, M8, he9, hs⟩ := ob_some hs
          refine Rc.callV (i := 413) (mid' := 1264) (av := [.int x1]) (rest := []) (v := none) (M1 := gm M8) (a := 280) rfl rfl rfl cw_1264 rfl (Nat.le_of_ble_eq_true rfl) rfl (Nat.le_of_ble_eq_true rfl) (qmd_booksOf_ok _ (by omega) he9) ?_
          refine Rc.goL mt_1265 3 (f2 := (44, [.ref 280, .int x1, .int x2, .int x3, .int (0 : Int32), .int (0 : Int32)], [], gm M8)) (b := true) rfl rfl ?_
          refine Rc.less (ls2 := [.ref 280, UU, .int x2, .int x3, .int (0 : Int32), .int (0 : Int32)]) (by refine ⟨Or.inr rfl, Or.inl rfl, Or.inr rfl, Or.inr rfl, Or.inr rfl, Or.inr rfl, trivial⟩) ?_
          refine qmd_differs_L44_ok d hd _ (fun y3_15 y5_16 M17 r Mz hs => ?_) _ x2 x3 (0 : Int32) (0 : Int32) _ _ _ hs
          · by_cases h22 : y3_15 = 0
            · rw [if_pos h22] at hs
              refine Rc.goL mt_1265 1 (f2 := (if y3_15 = 0 then 88 else 96, [.ref 280, UU, UU, .int y3_15, UU, .int y5_16], [], gm M17)) (b := true) rfl rfl ?_
              rw [if_pos h22]
              refine Rc.goL mt_1265 3 (f2 := (131, [.ref 280, UU, UU, .int y3_15, UU, .int y5_16], [.int (y5_16 / (10 : Int32))], gm M17)) (b := true) rfl rfl ?_
              obtain ⟨e1, e2⟩ := some_p hs; subst e1; subst e2
              exact Rc.ret (v := some (.int (y5_16 / (10 : Int32)))) rfl rfl
            · rw [if_neg h22] at hs
              refine Rc.goL mt_1265 1 (f2 := (if y3_15 = 0 then 88 else 96, [.ref 280, UU, UU, .int y3_15, UU, .int y5_16], [], gm M17)) (b := true) rfl rfl ?_
              rw [if_neg h22]
              by_cases h21 : y3_15 = (1 : Int32)
              · rw [if_pos h21] at hs
                refine Rc.goL mt_1265 2 (f2 := (if y3_15 = (1 : Int32) then 101 else 109, [.ref 280, UU, UU, .int y3_15, UU, .int y5_16], [], gm M17)) (b := true) rfl rfl ?_
                rw [if_pos h21]
                refine Rc.goL mt_1265 3 (f2 := (131, [.ref 280, UU, UU, .int y3_15, UU, .int y5_16], [.int (y5_16 - y5_16 / (10 : Int32) * (10 : Int32))], gm M17)) (b := true) rfl rfl ?_
                obtain ⟨e1, e2⟩ := some_p hs; subst e1; subst e2
                exact Rc.ret (v := some (.int (y5_16 - y5_16 / (10 : Int32) * (10 : Int32)))) rfl rfl
              · rw [if_neg h21] at hs
                refine Rc.goL mt_1265 2 (f2 := (if y3_15 = (1 : Int32) then 101 else 109, [.ref 280, UU, UU, .int y3_15, UU, .int y5_16], [], gm M17)) (b := true) rfl rfl ?_
                rw [if_neg h21]
                by_cases h20 : y3_15 = (2 : Int32)
                · rw [if_pos h20] at hs
                  refine Rc.goL mt_1265 2 (f2 := (if y3_15 = (2 : Int32) then 114 else 124, [.ref 280, UU, UU, .int y3_15, UU, .int y5_16], [], gm M17)) (b := true) rfl rfl ?_
                  rw [if_pos h20]
                  obtain ⟨hb18, hs⟩ := ck_some hs
                  refine Rc.goL mt_1265 4 (f2 := (131, [.ref 280, UU, UU, .int y3_15, UU, .int y5_16], [.int (M17.1 324 (Int32.toNatClampNeg y5_16))], gm M17)) (b := (ib 5200 y5_16 && true)) rfl hb18 ?_
                  obtain ⟨e1, e2⟩ := some_p hs; subst e1; subst e2
                  exact Rc.ret (v := some (.int (M17.1 324 (Int32.toNatClampNeg y5_16)))) rfl rfl
                · rw [if_neg h20] at hs
                  refine Rc.goL mt_1265 2 (f2 := (if y3_15 = (2 : Int32) then 114 else 124, [.ref 280, UU, UU, .int y3_15, UU, .int y5_16], [], gm M17)) (b := true) rfl rfl ?_
                  rw [if_neg h20]
                  obtain ⟨hb19, hs⟩ := ck_some hs
                  refine Rc.goL mt_1265 3 (f2 := (131, [.ref 280, UU, UU, .int y3_15, UU, .int y5_16], [.int (M17.1 325 (Int32.toNatClampNeg y5_16))], gm M17)) (b := (ib 5200 y5_16 && true)) rfl hb19 ?_
                  obtain ⟨e1, e2⟩ := some_p hs; subst e1; subst e2
                  exact Rc.ret (v := some (.int (M17.1 325 (Int32.toNatClampNeg y5_16)))) rfl rfl
