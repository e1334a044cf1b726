def qmd_sign (M : SM) : Option (Int32 × SM) :=
  if (M.1 280 14) < (M.1 280 15) then
  (ck (ib 200 (M.1 280 14) && true) (
    some (((M.1 289 (Int32.toNatClampNeg (M.1 280 14))) &&& (255 : Int32)), M))) else
  (some ((-1 : Int32), M))
theorem mt_1215 : MT 1215 K_1215 LN_12 := ⟨rfl, rfl, by decide +kernel⟩
theorem okm_1215 : OKm 1215 := ⟨⟨vE_1215, okL_12, by decide +kernel⟩, by decide +kernel, by decide +kernel, by decide +kernel⟩
set_option maxRecDepth 20000 in
theorem qmd_sign_ok (d : Nat) (hd : 1 ≤ d) {M : SM} {r : Int32} {Mz : SM} (hs : qmd_sign M = some (r, Mz)) : Ex d 1215 [.ref 280] (gm M) (some (.int r), gm Mz) := by
  obtain ⟨d, rfl⟩ : ∃ d0, d = d0 + 1 := ⟨d - 1, by omega⟩
  refine Ex.of okm_1215 (by omega) (Nat.le_of_ble_eq_true rfl) ?_
  show Rc (d + 1) 1215 (0, [.ref 280], [], gm M) _
  unfold qmd_sign at hs
  by_cases h2 : (M.1 280 14) < (M.1 280 15)
  · rw [if_pos h2] at hs
    refine Rc.goL mt_1215 4 (f2 := (if (M.1 280 14) < (M.1 280 15) then 11 else 27, [.ref 280], [], gm M)) (b := true) rfl rfl ?_
    rw [if_pos h2]
    obtain ⟨hb1, hs⟩ := ck_some hs
    obtain ⟨hb1_0, hb1⟩ := and_t hb1
    refine Rc.goL mt_1215 6 (f2 := (24, [.ref 280], [.int ((M.1 289 (Int32.toNatClampNeg (M.1 280 14))) &&& (255 : Int32))], gm M)) (b := (ib 200 (M.1 280 14) && true)) rfl (and_i hb1_0 rfl) ?_
    refine Rc.goL mt_1215 0 (f2 := (28, [.ref 280], [.int ((M.1 289 (Int32.toNatClampNeg (M.1 280 14))) &&& (255 : Int32))], gm M)) (b := true) rfl rfl ?_
    obtain ⟨e1, e2⟩ := some_p hs; subst e1; subst e2
    exact Rc.ret (v := some (.int ((M.1 289 (Int32.toNatClampNeg (M.1 280 14))) &&& (255 : Int32)))) rfl rfl
  · rw [if_neg h2] at hs
    refine Rc.goL mt_1215 4 (f2 := (if (M.1 280 14) < (M.1 280 15) then 11 else 27, [.ref 280], [], gm M)) (b := true) rfl rfl ?_
    rw [if_neg h2]
    refine Rc.goL mt_1215 0 (f2 := (28, [.ref 280], [.int (-1 : Int32)], gm M)) (b := true) rfl rfl ?_
    obtain ⟨e1, e2⟩ := some_p hs; subst e1; subst e2
    exact Rc.ret (v := some (.int (-1 : Int32))) rfl rfl
def qmd_wrong (x1 : Int32) (x2 : Int32) (M : SM) : Option (Int32 × SM) :=
  some ((0 : Int32), (wI M 280 16 (((-1000 : Int32) * x1) - x2)))
theorem mt_1216 : MT 1216 K_1216 LN_12 := ⟨rfl, rfl, by decide +kernel⟩
theorem okm_1216 : OKm 1216 := ⟨⟨vE_1216, okL_12, by decide +kernel⟩, by decide +kernel, by decide +kernel, by decide +kernel⟩
set_option maxRecDepth 20000 in
theorem qmd_wrong_ok (d : Nat) (hd : 1 ≤ d) {x1 : Int32} {x2 : Int32} {M : SM} {r : Int32} {Mz : SM} (hs : qmd_wrong x1 x2 M = some (r, Mz)) : Ex d 1216 [.ref 280, .int x1, .int x2] (gm M) (some (.int r), gm Mz) := by
  obtain ⟨d, rfl⟩ : ∃ d0, d = d0 + 1 := ⟨d - 1, by omega⟩
  refine Ex.of okm_1216 (by omega) (Nat.le_of_ble_eq_true rfl) ?_
  show Rc (d + 1) 1216 (0, [.ref 280, .int x1, .int x2], [], gm M) _
  unfold qmd_wrong at hs
  refine Rc.goL mt_1216 6 (f2 := (11, [.ref 280, .int x1, .int x2], [], gm (wI M 280 16 (((-1000 : Int32) * x1) - x2)))) (b := true) rfl rfl ?_
  refine Rc.goL mt_1216 0 (f2 := (12, [.ref 280, .int x1, .int x2], [.int (0 : Int32)], gm (wI M 280 16 (((-1000 : Int32) * x1) - x2)))) (b := true) rfl rfl ?_
  obtain ⟨e1, e2⟩ := some_p hs; subst e1; subst e2
  exact Rc.ret (v := some (.int (0 : Int32))) rfl rfl
def qmd_says (x1 : Int32) (x2 : Int32) (M : SM) : Option (Unit × SM) :=
  ck (ib 220 (M.1 280 18) && true) (
  some ((), (wI (wI M 290 (Int32.toNatClampNeg (M.1 280 18)) (((1048576 : Int32) * x1) + x2)) 280 18 ((M.1 280 18) + (1 : Int32)))))
theorem mt_1217 : MT 1217 K_1217 LN_12 := ⟨rfl, rfl, by decide +kernel⟩
theorem okm_1217 : OKm 1217 := ⟨⟨vE_1217, okL_12, by decide +kernel⟩, by decide +kernel, by decide +kernel, by decide +kernel⟩
set_option maxRecDepth 20000 in
theorem qmd_says_ok (d : Nat) (hd : 1 ≤ d) {x1 : Int32} {x2 : Int32} {M : SM} {r : Unit} {Mz : SM} (hs : qmd_says x1 x2 M = some (r, Mz)) : Ex d 1217 [.ref 280, .int x1, .int x2] (gm M) (none, gm Mz) := by
  obtain ⟨d, rfl⟩ : ∃ d0, d = d0 + 1 := ⟨d - 1, by omega⟩
  refine Ex.of okm_1217 (by omega) (Nat.le_of_ble_eq_true rfl) ?_
  show Rc (d + 1) 1217 (0, [.ref 280, .int x1, .int x2], [], gm M) _
  unfold qmd_says at hs
  obtain ⟨hb1, hs⟩ := ck_some hs
  obtain ⟨hb1_0, hb1⟩ := and_t hb1
  refine Rc.goL mt_1217 6 (f2 := (12, [.ref 280, .int x1, .int x2], [.int ((1048576 : Int32) * x1), .int (M.1 280 18), .ref 290], gm M)) (b := true) rfl rfl ?_
  refine Rc.goL mt_1217 2 (f2 := (15, [.ref 280, .int x1, .int x2], [], gm (wI M 290 (Int32.toNatClampNeg (M.1 280 18)) (((1048576 : Int32) * x1) + x2)))) (b := (ib 220 (M.1 280 18) && true)) rfl (and_i hb1_0 rfl) ?_
  refine Rc.goL mt_1217 5 (f2 := (25, [.ref 280, .int x1, .int x2], [], gm (wI (wI M 290 (Int32.toNatClampNeg (M.1 280 18)) (((1048576 : Int32) * x1) + x2)) 280 18 ((M.1 280 18) + (1 : Int32))))) (b := true) rfl rfl ?_
  obtain ⟨e1, e2⟩ := some_p hs; subst e1; subst e2
  exact Rc.ret (v := none) rfl rfl
def qmd_holds (x1 : Int32) (x2 : Int32) (M : SM) : Option (Unit × SM) :=
  ck (ib 220 (M.1 280 19) && true) (
  some ((), (wI (wI M 291 (Int32.toNatClampNeg (M.1 280 19)) (((1048576 : Int32) * x1) + x2)) 280 19 ((M.1 280 19) + (1 : Int32)))))
theorem mt_1218 : MT 1218 K_1218 LN_12 := ⟨rfl, rfl, by decide +kernel⟩
theorem okm_1218 : OKm 1218 := ⟨⟨vE_1218, okL_12, by decide +kernel⟩, by decide +kernel, by decide +kernel, by decide +kernel⟩
set_option maxRecDepth 20000 in
theorem qmd_holds_ok (d : Nat) (hd : 1 ≤ d) {x1 : Int32} {x2 : Int32} {M : SM} {r : Unit} {Mz : SM} (hs : qmd_holds x1 x2 M = some (r, Mz)) : Ex d 1218 [.ref 280, .int x1, .int x2] (gm M) (none, gm Mz) := by
  obtain ⟨d, rfl⟩ : ∃ d0, d = d0 + 1 := ⟨d - 1, by omega⟩
  refine Ex.of okm_1218 (by omega) (Nat.le_of_ble_eq_true rfl) ?_
  show Rc (d + 1) 1218 (0, [.ref 280, .int x1, .int x2], [], gm M) _
  unfold qmd_holds at hs
  obtain ⟨hb1, hs⟩ := ck_some hs
  obtain ⟨hb1_0, hb1⟩ := and_t hb1
  refine Rc.goL mt_1218 6 (f2 := (12, [.ref 280, .int x1, .int x2], [.int ((1048576 : Int32) * x1), .int (M.1 280 19), .ref 291], gm M)) (b := true) rfl rfl ?_
  refine Rc.goL mt_1218 2 (f2 := (15, [.ref 280, .int x1, .int x2], [], gm (wI M 291 (Int32.toNatClampNeg (M.1 280 19)) (((1048576 : Int32) * x1) + x2)))) (b := (ib 220 (M.1 280 19) && true)) rfl (and_i hb1_0 rfl) ?_
  refine Rc.goL mt_1218 5 (f2 := (25, [.ref 280, .int x1, .int x2], [], gm (wI (wI M 291 (Int32.toNatClampNeg (M.1 280 19)) (((1048576 : Int32) * x1) + x2)) 280 19 ((M.1 280 19) + (1 : Int32))))) (b := true) rfl rfl ?_
  obtain ⟨e1, e2⟩ := some_p hs; subst e1; subst e2
  exact Rc.ret (v := none) rfl rfl
def qmd_top (M : SM) : Option (Int32 × SM) :=
  if (M.1 280 19) = 0 then
  (some ((-1 : Int32), M)) else
  (ck (ib 220 ((M.1 280 19) - (1 : Int32)) && true) (
    some (((M.1 291 (Int32.toNatClampNeg ((M.1 280 19) - (1 : Int32)))) / (1048576 : Int32)), M)))
theorem mt_1219 : MT 1219 K_1219 LN_12 := ⟨rfl, rfl, by decide +kernel⟩
theorem okm_1219 : OKm 1219 := ⟨⟨vE_1219, okL_12, by decide +kernel⟩, by decide +kernel, by decide +kernel, by decide +kernel⟩
set_option maxRecDepth 20000 in
theorem qmd_top_ok (d : Nat) (hd : 1 ≤ d) {M : SM} {r : Int32} {Mz : SM} (hs : qmd_top M = some (r, Mz)) : Ex d 1219 [.ref 280] (gm M) (some (.int r), gm Mz) := by
  obtain ⟨d, rfl⟩ : ∃ d0, d = d0 + 1 := ⟨d - 1, by omega⟩
  refine Ex.of okm_1219 (by omega) (Nat.le_of_ble_eq_true rfl) ?_
  show Rc (d + 1) 1219 (0, [.ref 280], [], gm M) _
  unfold qmd_top at hs
  by_cases h2 : (M.1 280 19) = 0
  · rw [if_pos h2] at hs
    refine Rc.goL mt_1219 2 (f2 := (if (M.1 280 19) = 0 then 7 else 11, [.ref 280], [], gm M)) (b := true) rfl rfl ?_
    rw [if_pos h2]
    refine Rc.goL mt_1219 1 (f2 := (25, [.ref 280], [.int (-1 : Int32)], gm M)) (b := true) rfl rfl ?_
    obtain ⟨e1, e2⟩ := some_p hs; subst e1; subst e2
    exact Rc.ret (v := some (.int (-1 : Int32))) rfl rfl
  · rw [if_neg h2] at hs
    refine Rc.goL mt_1219 2 (f2 := (if (M.1 280 19) = 0 then 7 else 11, [.ref 280], [], gm M)) (b := true) rfl rfl ?_
    rw [if_neg h2]
    obtain ⟨hb1, hs⟩ := ck_some hs
    obtain ⟨hb1_0, hb1⟩ := and_t hb1
    refine Rc.goL mt_1219 6 (f2 := (22, [.ref 280], [.int (M.1 291 (Int32.toNatClampNeg ((M.1 280 19) - (1 : Int32))))], gm M)) (b := (ib 220 ((M.1 280 19) - (1 : Int32)) && true)) rfl (and_i hb1_0 rfl) ?_
    refine Rc.goL mt_1219 1 (f2 := (25, [.ref 280], [.int ((M.1 291 (Int32.toNatClampNeg ((M.1 280 19) - (1 : Int32)))) / (1048576 : Int32))], gm M)) (b := true) rfl rfl ?_
    obtain ⟨e1, e2⟩ := some_p hs; subst e1; subst e2
    exact Rc.ret (v := some (.int ((M.1 291 (Int32.toNatClampNeg ((M.1 280 19) - (1 : Int32)))) / (1048576 : Int32)))) rfl rfl
def qmd_opOf (x0 : Int32) (M : SM) : Option (Int32 × SM) :=
  if x0 = (37 : Int32) then
  (some ((7 : Int32), M)) else
  (if x0 = (42 : Int32) then
  (some ((5 : Int32), M)) else
  (if x0 = (43 : Int32) then
  (some ((3 : Int32), M)) else
  (if x0 = (45 : Int32) then
  (some ((4 : Int32), M)) else
  (if x0 = (47 : Int32) then
  (some ((6 : Int32), M)) else
  (if x0 = (60 : Int32) then
  (some ((10 : Int32), M)) else
  (if x0 = (61 : Int32) then
  (some ((12 : Int32), M)) else
  (if x0 = (62 : Int32) then
  (some ((11 : Int32), M)) else
  (if x0 = (94 : Int32) then
  (some ((9 : Int32), M)) else
  (if x0 = (95 : Int32) then
  (some ((8 : Int32), M)) else
  (some ((-1 : Int32), M)))))))))))
theorem mt_1220 : MT 1220 K_1220 LN_12 := ⟨rfl, rfl, by decide +kernel⟩
theorem okm_1220 : OKm 1220 := ⟨⟨vE_1220, okL_12, by decide +kernel⟩, by decide +kernel, by decide +kernel, by decide +kernel⟩
set_option maxRecDepth 20000 in
theorem qmd_opOf_ok (d : Nat) (hd : 1 ≤ d) {x0 : Int32} {M : SM} {r : Int32} {Mz : SM} (hs : qmd_opOf x0 M = some (r, Mz)) : Ex d 1220 [.int x0] (gm M) (some (.int r), gm Mz) := by
  obtain ⟨d, rfl⟩ : ∃ d0, d = d0 + 1 := ⟨d - 1, by omega⟩
  refine Ex.of okm_1220 (by omega) (Nat.le_of_ble_eq_true rfl) ?_
  show Rc (d + 1) 1220 (0, [.int x0], [], gm M) _
  unfold qmd_opOf at hs
  refine Rc.goL mt_1220 1 (f2 := (swl [(37, 101), (42, 96), (43, 92), (45, 94), (47, 98), (60, 110), (61, 116), (62, 113), (94, 107), (95, 104)] 119 x0, [.int x0], [], gm M)) (b := true) rfl rfl ?_
  by_cases h1 : x0 = (37 : Int32)
  · rw [if_pos h1] at hs
    rw [show swl [(37, 101), (42, 96), (43, 92), (45, 94), (47, 98), (60, 110), (61, 116), (62, 113), (94, 107), (95, 104)] 119 x0 = 101 by first | (simp only [swl, if_pos h1]; done) | (rw [h1]; decide)]
    refine Rc.goL mt_1220 0 (f2 := (103, [.int x0], [.int (7 : Int32)], gm M)) (b := true) rfl rfl ?_
    obtain ⟨e1, e2⟩ := some_p hs; subst e1; subst e2
    exact Rc.ret (v := some (.int (7 : Int32))) rfl rfl
  · rw [if_neg h1] at hs
    by_cases h2 : x0 = (42 : Int32)
    · rw [if_pos h2] at hs
      rw [show swl [(37, 101), (42, 96), (43, 92), (45, 94), (47, 98), (60, 110), (61, 116), (62, 113), (94, 107), (95, 104)] 119 x0 = 96 by first | (simp only [swl, if_pos h2]; done) | (rw [h2]; decide)]
      refine Rc.goL mt_1220 0 (f2 := (97, [.int x0], [.int (5 : Int32)], gm M)) (b := true) rfl rfl ?_
      obtain ⟨e1, e2⟩ := some_p hs; subst e1; subst e2
      exact Rc.ret (v := some (.int (5 : Int32))) rfl rfl
    · rw [if_neg h2] at hs
      by_cases h3 : x0 = (43 : Int32)
      · rw [if_pos h3] at hs
        rw [show swl [(37, 101), (42, 96), (43, 92), (45, 94), (47, 98), (60, 110), (61, 116), (62, 113), (94, 107), (95, 104)] 119 x0 = 92 by first | (simp only [swl, if_pos h3]; done) | (rw [h3]; decide)]
        refine Rc.goL mt_1220 0 (f2 := (93, [.int x0], [.int (3 : Int32)], gm M)) (b := true) rfl rfl ?_
        obtain ⟨e1, e2⟩ := some_p hs; subst e1; subst e2
        exact Rc.ret (v := some (.int (3 : Int32))) rfl rfl
      · rw [if_neg h3] at hs
        by_cases h4 : x0 = (45 : Int32)
        · rw [if_pos h4] at hs
          rw [show swl [(37, 101), (42, 96), (43, 92), (45, 94), (47, 98), (60, 110), (61, 116), (62, 113), (94, 107), (95, 104)] 119 x0 = 94 by first | (simp only [swl, if_pos h4]; done) | (rw [h4]; decide)]
          refine Rc.goL mt_1220 0 (f2 := (95, [.int x0], [.int (4 : Int32)], gm M)) (b := true) rfl rfl ?_
          obtain ⟨e1, e2⟩ := some_p hs; subst e1; subst e2
          exact Rc.ret (v := some (.int (4 : Int32))) rfl rfl
        · rw [if_neg h4] at hs
          by_cases h5 : x0 = (47 : Int32)
          · rw [if_pos h5] at hs
            rw [show swl [(37, 101), (42, 96), (43, 92), (45, 94), (47, 98), (60, 110), (61, 116), (62, 113), (94, 107), (95, 104)] 119 x0 = 98 by first | (simp only [swl, if_pos h5]; done) | (rw [h5]; decide)]
            refine Rc.goL mt_1220 0 (f2 := (100, [.int x0], [.int (6 : Int32)], gm M)) (b := true) rfl rfl ?_
            obtain ⟨e1, e2⟩ := some_p hs; subst e1; subst e2
            exact Rc.ret (v := some (.int (6 : Int32))) rfl rfl
          · rw [if_neg h5] at hs
            by_cases h6 : x0 = (60 : Int32)
            · rw [if_pos h6] at hs
              rw [show swl [(37, 101), (42, 96), (43, 92), (45, 94), (47, 98), (60, 110), (61, 116), (62, 113), (94, 107), (95, 104)] 119 x0 = 110 by first | (simp only [swl, if_pos h6]; done) | (rw [h6]; decide)]
              refine Rc.goL mt_1220 0 (f2 := (112, [.int x0], [.int (10 : Int32)], gm M)) (b := true) rfl rfl ?_
              obtain ⟨e1, e2⟩ := some_p hs; subst e1; subst e2
              exact Rc.ret (v := some (.int (10 : Int32))) rfl rfl
            · rw [if_neg h6] at hs
              by_cases h7 : x0 = (61 : Int32)
              · rw [if_pos h7] at hs
                rw [show swl [(37, 101), (42, 96), (43, 92), (45, 94), (47, 98), (60, 110), (61, 116), (62, 113), (94, 107), (95, 104)] 119 x0 = 116 by first | (simp only [swl, if_pos h7]; done) | (rw [h7]; decide)]
                refine Rc.goL mt_1220 0 (f2 := (118, [.int x0], [.int (12 : Int32)], gm M)) (b := true) rfl rfl ?_
                obtain ⟨e1, e2⟩ := some_p hs; subst e1; subst e2
                exact Rc.ret (v := some (.int (12 : Int32))) rfl rfl
              · rw [if_neg h7] at hs
                by_cases h8 : x0 = (62 : Int32)
                · rw [if_pos h8] at hs
                  rw [show swl [(37, 101), (42, 96), (43, 92), (45, 94), (47, 98), (60, 110), (61, 116), (62, 113), (94, 107), (95, 104)] 119 x0 = 113 by first | (simp only [swl, if_pos h8]; done) | (rw [h8]; decide)]
                  refine Rc.goL mt_1220 0 (f2 := (115, [.int x0], [.int (11 : Int32)], gm M)) (b := true) rfl rfl ?_
                  obtain ⟨e1, e2⟩ := some_p hs; subst e1; subst e2
                  exact Rc.ret (v := some (.int (11 : Int32))) rfl rfl
                · rw [if_neg h8] at hs
                  by_cases h9 : x0 = (94 : Int32)
                  · rw [if_pos h9] at hs
                    rw [show swl [(37, 101), (42, 96), (43, 92), (45, 94), (47, 98), (60, 110), (61, 116), (62, 113), (94, 107), (95, 104)] 119 x0 = 107 by first | (simp only [swl, if_pos h9]; done) | (rw [h9]; decide)]
                    refine Rc.goL mt_1220 0 (f2 := (109, [.int x0], [.int (9 : Int32)], gm M)) (b := true) rfl rfl ?_
                    obtain ⟨e1, e2⟩ := some_p hs; subst e1; subst e2
                    exact Rc.ret (v := some (.int (9 : Int32))) rfl rfl
                  · rw [if_neg h9] at hs
                    by_cases h10 : x0 = (95 : Int32)
                    · rw [if_pos h10] at hs
                      rw [show swl [(37, 101), (42, 96), (43, 92), (45, 94), (47, 98), (60, 110), (61, 116), (62, 113), (94, 107), (95, 104)] 119 x0 = 104 by first | (simp only [swl, if_pos h10]; done) | (rw [h10]; decide)]
                      refine Rc.goL mt_1220 0 (f2 := (106, [.int x0], [.int (8 : Int32)], gm M)) (b := true) rfl rfl ?_
                      obtain ⟨e1, e2⟩ := some_p hs; subst e1; subst e2
                      exact Rc.ret (v := some (.int (8 : Int32))) rfl rfl
                    · rw [if_neg h10] at hs
                      rw [show swl [(37, 101), (42, 96), (43, 92), (45, 94), (47, 98), (60, 110), (61, 116), (62, 113), (94, 107), (95, 104)] 119 x0 = 119 by simp only [swl, if_neg h1, if_neg h2, if_neg h3, if_neg h4, if_neg h5, if_neg h6, if_neg h7, if_neg h8, if_neg h9, if_neg h10]]
                      refine Rc.goL mt_1220 0 (f2 := (120, [.int x0], [.int (-1 : Int32)], gm M)) (b := true) rfl rfl ?_
                      obtain ⟨e1, e2⟩ := some_p hs; subst e1; subst e2
                      exact Rc.ret (v := some (.int (-1 : Int32))) rfl rfl
def qmd_binds (x0 : Int32) (M : SM) : Option (Int32 × SM) :=
  if x0 < (8 : Int32) then
  (if x0 < (5 : Int32) then
    (some ((1 : Int32), M)) else
    (some ((2 : Int32), M))) else
  (some ((3 : Int32), M))
theorem mt_1221 : MT 1221 K_1221 LN_12 := ⟨rfl, rfl, by decide +kernel⟩
theorem okm_1221 : OKm 1221 := ⟨⟨vE_1221, okL_12, by decide +kernel⟩, by decide +kernel, by decide +kernel, by decide +kernel⟩
set_option maxRecDepth 20000 in
theorem qmd_binds_ok (d : Nat) (hd : 1 ≤ d) {x0 : Int32} {M : SM} {r : Int32} {Mz : SM} (hs : qmd_binds x0 M = some (r, Mz)) : Ex d 1221 [.int x0] (gm M) (some (.int r), gm Mz) := by
  obtain ⟨d, rfl⟩ : ∃ d0, d = d0 + 1 := ⟨d - 1, by omega⟩
  refine Ex.of okm_1221 (by omega) (Nat.le_of_ble_eq_true rfl) ?_
  show Rc (d + 1) 1221 (0, [.int x0], [], gm M) _
  unfold qmd_binds at hs
  by_cases h2 : x0 < (8 : Int32)
  · rw [if_pos h2] at hs
    refine Rc.goL mt_1221 2 (f2 := (if x0 < (8 : Int32) then 10 else 6, [.int x0], [], gm M)) (b := true) rfl rfl ?_
    rw [if_pos h2]
    by_cases h1 : x0 < (5 : Int32)
    · rw [if_pos h1] at hs
      refine Rc.goL mt_1221 2 (f2 := (if x0 < (5 : Int32) then 19 else 15, [.int x0], [], gm M)) (b := true) rfl rfl ?_
      rw [if_pos h1]
      refine Rc.goL mt_1221 0 (f2 := (20, [.int x0], [.int (1 : Int32)], gm M)) (b := true) rfl rfl ?_
      obtain ⟨e1, e2⟩ := some_p hs; subst e1; subst e2
      exact Rc.ret (v := some (.int (1 : Int32))) rfl rfl
    · rw [if_neg h1] at hs
      refine Rc.goL mt_1221 2 (f2 := (if x0 < (5 : Int32) then 19 else 15, [.int x0], [], gm M)) (b := true) rfl rfl ?_
      rw [if_neg h1]
      refine Rc.goL mt_1221 1 (f2 := (20, [.int x0], [.int (2 : Int32)], gm M)) (b := true) rfl rfl ?_
      obtain ⟨e1, e2⟩ := some_p hs; subst e1; subst e2
      exact Rc.ret (v := some (.int (2 : Int32))) rfl rfl
  · rw [if_neg h2] at hs
    refine Rc.goL mt_1221 2 (f2 := (if x0 < (8 : Int32) then 10 else 6, [.int x0], [], gm M)) (b := true) rfl rfl ?_
    rw [if_neg h2]
    refine Rc.goL mt_1221 1 (f2 := (20, [.int x0], [.int (3 : Int32)], gm M)) (b := true) rfl rfl ?_
    obtain ⟨e1, e2⟩ := some_p hs; subst e1; subst e2
    exact Rc.ret (v := some (.int (3 : Int32))) rfl rfl
def qmd_isSum (x0 : Int32) (M : SM) : Option (Int32 × SM) :=
  if x0 < (3 : Int32) then
  (some ((0 : Int32), M)) else
  (if (9 : Int32) < x0 then
    (some ((0 : Int32), M)) else
    (some ((1 : Int32), M)))
theorem mt_1222 : MT 1222 K_1222 LN_12 := ⟨rfl, rfl, by decide +kernel⟩
theorem okm_1222 : OKm 1222 := ⟨⟨vE_1222, okL_12, by decide +kernel⟩, by decide +kernel, by decide +kernel, by decide +kernel⟩
set_option maxRecDepth 20000 in
theorem qmd_isSum_ok (d : Nat) (hd : 1 ≤ d) {x0 : Int32} {M : SM} {r : Int32} {Mz : SM} (hs : qmd_isSum x0 M = some (r, Mz)) : Ex d 1222 [.int x0] (gm M) (some (.int r), gm Mz) := by
  obtain ⟨d, rfl⟩ : ∃ d0, d = d0 + 1 := ⟨d - 1, by omega⟩
  refine Ex.of okm_1222 (by omega) (Nat.le_of_ble_eq_true rfl) ?_
  show Rc (d + 1) 1222 (0, [.int x0], [], gm M) _
  unfold qmd_isSum at hs
  by_cases h2 : x0 < (3 : Int32)
  · rw [if_pos h2] at hs
    refine Rc.goL mt_1222 2 (f2 := (if x0 < (3 : Int32) then 15 else 5, [.int x0], [], gm M)) (b := true) rfl rfl ?_
    rw [if_pos h2]
    refine Rc.goL mt_1222 0 (f2 := (16, [.int x0], [.int (0 : Int32)], gm M)) (b := true) rfl rfl ?_
    obtain ⟨e1, e2⟩ := some_p hs; subst e1; subst e2
    exact Rc.ret (v := some (.int (0 : Int32))) rfl rfl
  · rw [if_neg h2] at hs
    refine Rc.goL mt_1222 2 (f2 := (if x0 < (3 : Int32) then 15 else 5, [.int x0], [], gm M)) (b := true) rfl rfl ?_
    rw [if_neg h2]
    by_cases h1 : (9 : Int32) < x0
    · rw [if_pos h1] at hs
      refine Rc.goL mt_1222 2 (f2 := (if (9 : Int32) < x0 then 15 else 11, [.int x0], [], gm M)) (b := true) rfl rfl ?_
      rw [if_pos h1]
      refine Rc.goL mt_1222 0 (f2 := (16, [.int x0], [.int (0 : Int32)], gm M)) (b := true) rfl rfl ?_
      obtain ⟨e1, e2⟩ := some_p hs; subst e1; subst e2
      exact Rc.ret (v := some (.int (0 : Int32))) rfl rfl
    · rw [if_neg h1] at hs
      refine Rc.goL mt_1222 2 (f2 := (if (9 : Int32) < x0 then 15 else 11, [.int x0], [], gm M)) (b := true) rfl rfl ?_
      rw [if_neg h1]
      refine Rc.goL mt_1222 1 (f2 := (16, [.int x0], [.int (1 : Int32)], gm M)) (b := true) rfl rfl ?_
      obtain ⟨e1, e2⟩ := some_p hs; subst e1; subst e2
      exact Rc.ret (v := some (.int (1 : Int32))) rfl rfl
def qmd_isCompared (x0 : Int32) (M : SM) : Option (Int32 × SM) :=
  if x0 < (10 : Int32) then
  (some ((0 : Int32), M)) else
  (if (12 : Int32) < x0 then
    (some ((0 : Int32), M)) else
    (some ((1 : Int32), M)))
theorem mt_1223 : MT 1223 K_1223 LN_12 := ⟨rfl, rfl, by decide +kernel⟩
theorem okm_1223 : OKm 1223 := ⟨⟨vE_1223, okL_12, by decide +kernel⟩, by decide +kernel, by decide +kernel, by decide +kernel⟩
set_option maxRecDepth 20000 in
theorem qmd_isCompared_ok (d : Nat) (hd : 1 ≤ d) {x0 : Int32} {M : SM} {r : Int32} {Mz : SM} (hs : qmd_isCompared x0 M = some (r, Mz)) : Ex d 1223 [.int x0] (gm M) (some (.int r), gm Mz) := by
  obtain ⟨d, rfl⟩ : ∃ d0, d = d0 + 1 := ⟨d - 1, by omega⟩
  refine Ex.of okm_1223 (by omega) (Nat.le_of_ble_eq_true rfl) ?_
  show Rc (d + 1) 1223 (0, [.int x0], [], gm M) _
  unfold qmd_isCompared at hs
  by_cases h2 : x0 < (10 : Int32)
  · rw [if_pos h2] at hs
    refine Rc.goL mt_1223 2 (f2 := (if x0 < (10 : Int32) then 16 else 6, [.int x0], [], gm M)) (b := true) rfl rfl ?_
    rw [if_pos h2]
    refine Rc.goL mt_1223 0 (f2 := (17, [.int x0], [.int (0 : Int32)], gm M)) (b := true) rfl rfl ?_
    obtain ⟨e1, e2⟩ := some_p hs; subst e1; subst e2
    exact Rc.ret (v := some (.int (0 : Int32))) rfl rfl
  · rw [if_neg h2] at hs
    refine Rc.goL mt_1223 2 (f2 := (if x0 < (10 : Int32) then 16 else 6, [.int x0], [], gm M)) (b := true) rfl rfl ?_
    rw [if_neg h2]
    by_cases h1 : (12 : Int32) < x0
    · rw [if_pos h1] at hs
      refine Rc.goL mt_1223 2 (f2 := (if (12 : Int32) < x0 then 16 else 12, [.int x0], [], gm M)) (b := true) rfl rfl ?_
      rw [if_pos h1]
      refine Rc.goL mt_1223 0 (f2 := (17, [.int x0], [.int (0 : Int32)], gm M)) (b := true) rfl rfl ?_
      obtain ⟨e1, e2⟩ := some_p hs; subst e1; subst e2
      exact Rc.ret (v := some (.int (0 : Int32))) rfl rfl
    · rw [if_neg h1] at hs
      refine Rc.goL mt_1223 2 (f2 := (if (12 : Int32) < x0 then 16 else 12, [.int x0], [], gm M)) (b := true) rfl rfl ?_
      rw [if_neg h1]
      refine Rc.goL mt_1223 1 (f2 := (17, [.int x0], [.int (1 : Int32)], gm M)) (b := true) rfl rfl ?_
      obtain ⟨e1, e2⟩ := some_p hs; subst e1; subst e2
      exact Rc.ret (v := some (.int (1 : Int32))) rfl rfl
def qmd_closes_L0 : Nat → Int32 → SM → Option (Unit × SM)
  | 0, _, _ => none
  | n + 1, x1, M =>
    ob (qmd_top M) (fun r1 M2 =>
    ob (qmd_isSum r1 M2) (fun r4 M5 =>
    if r4 = 0 then
    (some ((), M5)) else
    (ob (qmd_top M5) (fun r7 M8 =>
      ob (qmd_binds r7 M8) (fun r10 M11 =>
      if r10 < x1 then
      (some ((), M11)) else
      (ob (qmd_top M11) (fun r13 M14 =>
        ob (qmd_says r13 (0 : Int32) M14) (fun _ M16 =>
        qmd_closes_L0 n x1 (wI M16 280 19 ((M16.1 280 19) - (1 : Int32)))))))))))
def qmd_closes (x1 : Int32) (M : SM) : Option (Unit × SM) :=
  qmd_closes_L0 FU x1 M
theorem mt_1224 : MT 1224 K_1224 LN_12 := ⟨rfl, rfl, by decide +kernel⟩
theorem okm_1224 : OKm 1224 := ⟨⟨vE_1224, okL_12, by decide +kernel⟩, by decide +kernel, by decide +kernel, by decide +kernel⟩
set_option maxRecDepth 20000 in
theorem qmd_closes_L0_ok (d : Nat) (hd : 2 ≤ d + 1) : ∀ (n : Nat) (x1 : Int32) (M : SM) (r : Unit) (Mz : SM), qmd_closes_L0 n x1 M = some (r, Mz) → Rc (d + 1) 1224 (0, [.ref 280, .int x1], [], gm M) (none, gm Mz) := by
  intro n
  induction n with
  | zero => intro x1 M r Mz hs; cases hs
  | succ n ih =>
    intro x1 M r Mz hs
    rw [qmd_closes_L0] at hs
    refine Rc.goL mt_1224 0 (f2 := (1, [.ref 280, .int x1], [.ref 280], gm M)) (b := true) rfl rfl ?_
    obtain ⟨r1, M2, he3, hs⟩ := ob_some hs
    refine Rc.callV (i := 239) (mid' := 1219) (av := []) (rest := []) (v := some (.int r1)) (M1 := gm M2) (a := 280) rfl rfl rfl cw_1219 rfl (Nat.le_of_ble_eq_true rfl) rfl (Nat.le_of_ble_eq_true rfl) (qmd_top_ok _ (by omega) he3) ?_
    obtain ⟨r4, M5, he6, hs⟩ := ob_some hs
    refine Rc.callS (i := 243) (mid' := 1222) (av := [.int r1]) (rest := []) (v := some (.int r4)) (M1 := gm M5) rfl (Or.inl rfl) rfl cw_1222 rfl (Nat.le_of_ble_eq_true rfl) (qmd_isSum_ok _ (by omega) he6) ?_
    by_cases h20 : r4 = 0
    · rw [if_pos h20] at hs
      refine Rc.goL mt_1224 0 (f2 := (if r4 = 0 then 43 else 10, [.ref 280, .int x1], [], gm M5)) (b := true) rfl rfl ?_
      rw [if_pos h20]
      obtain ⟨e1, e2⟩ := some_p hs; subst e1; subst e2
      exact Rc.ret (v := none) rfl rfl
    · rw [if_neg h20] at hs
      refine Rc.goL mt_1224 0 (f2 := (if r4 = 0 then 43 else 10, [.ref 280, .int x1], [], gm M5)) (b := true) rfl rfl ?_
      rw [if_neg h20]
      refine Rc.goL mt_1224 0 (f2 := (11, [.ref 280, .int x1], [.ref 280], gm M5)) (b := true) rfl rfl ?_
      obtain ⟨r7, M8, he9, hs⟩ := ob_some hs
      refine Rc.callV (i := 239) (mid' := 1219) (av := []) (rest := []) (v := some (.int r7)) (M1 := gm M8) (a := 280) rfl rfl rfl cw_1219 rfl (Nat.le_of_ble_eq_true rfl) rfl (Nat.le_of_ble_eq_true rfl) (qmd_top_ok _ (by omega) he9) ?_
      obtain ⟨r10, M11, he12, hs⟩ := ob_some hs
      refine Rc.callS (i := 246) (mid' := 1221) (av := [.int r7]) (rest := []) (v := some (.int r10)) (M1 := gm M11) rfl (Or.inl rfl) rfl cw_1221 rfl (Nat.le_of_ble_eq_true rfl) (qmd_binds_ok _ (by omega) he12) ?_
      by_cases h19 : r10 < x1
      · rw [if_pos h19] at hs
        refine Rc.goL mt_1224 1 (f2 := (if r10 < x1 then 43 else 21, [.ref 280, .int x1], [], gm M11)) (b := true) rfl rfl ?_
        rw [if_pos h19]
        obtain ⟨e1, e2⟩ := some_p hs; subst e1; subst e2
        exact Rc.ret (v := none) rfl rfl
      · rw [if_neg h19] at hs
        refine Rc.goL mt_1224 1 (f2 := (if r10 < x1 then 43 else 21, [.ref 280, .int x1], [], gm M11)) (b := true) rfl rfl ?_
        rw [if_neg h19]
        refine Rc.goL mt_1224 1 (f2 := (23, [.ref 280, .int x1], [.ref 280, .ref 280], gm M11)) (b := true) rfl rfl ?_
        obtain ⟨r13, M14, he15, hs⟩ := ob_some hs
        refine Rc.callV (i := 239) (mid' := 1219) (av := []) (rest := [.ref 280]) (v := some (.int r13)) (M1 := gm M14) (a := 280) rfl rfl rfl cw_1219 rfl (Nat.le_of_ble_eq_true rfl) rfl (Nat.le_of_ble_eq_true rfl) (qmd_top_ok _ (by omega) he15) ?_
        refine Rc.goL mt_1224 0 (f2 := (27, [.ref 280, .int x1], [.int (0 : Int32), .int r13, .ref 280], gm M14)) (b := true) rfl rfl ?_
        obtain ⟨u18, M16, he17, hs⟩ := ob_some hs
        refine Rc.callV (i := 250) (mid' := 1217) (av := [.int r13, .int (0 : Int32)]) (rest := []) (v := none) (M1 := gm M16) (a := 280) rfl rfl rfl cw_1217 rfl (Nat.le_of_ble_eq_true rfl) rfl (Nat.le_of_ble_eq_true rfl) (qmd_says_ok _ (by omega) he17) ?_
        refine Rc.goL mt_1224 5 (f2 := (40, [.ref 280, .int x1], [], gm (wI M16 280 19 ((M16.1 280 19) - (1 : Int32))))) (b := true) rfl rfl ?_
        refine Rc.goL mt_1224 0 (f2 := (0, [.ref 280, .int x1], [], gm (wI M16 280 19 ((M16.1 280 19) - (1 : Int32))))) (b := true) rfl rfl ?_
        refine Rc.less (ls2 := [.ref 280, .int x1]) (by refine ⟨Or.inr rfl, Or.inr rfl, trivial⟩) ?_
        exact ih x1 _ _ _ hs
set_option maxRecDepth 20000 in
theorem qmd_closes_ok (d : Nat) (hd : 2 ≤ d) {x1 : Int32} {M : SM} {r : Unit} {Mz : SM} (hs : qmd_closes x1 M = some (r, Mz)) : Ex d 1224 [.ref 280, .int x1] (gm M) (none, gm Mz) := by
  obtain ⟨d, rfl⟩ : ∃ d0, d = d0 + 1 := ⟨d - 1, by omega⟩
  refine Ex.of okm_1224 (by omega) (Nat.le_of_ble_eq_true rfl) ?_
  show Rc (d + 1) 1224 (0, [.ref 280, .int x1], [], gm M) _
  unfold qmd_closes at hs
  refine Rc.less (ls2 := [.ref 280, .int x1]) (by refine ⟨Or.inr rfl, Or.inr rfl, trivial⟩) ?_
  exact qmd_closes_L0_ok d hd _ x1 _ _ _ hs
def qmd_factOf (x0 : Int32) (M : SM) : Option (Int32 × SM) :=
  if x0 = (100 : Int32) then
  (some ((1 : Int32), M)) else
  (if x0 = (101 : Int32) then
  (some ((-1 : Int32), M)) else
  (if x0 = (102 : Int32) then
  (some ((5 : Int32), M)) else
  (if x0 = (103 : Int32) then
  (some ((0 : Int32), M)) else
  (if x0 = (104 : Int32) then
  (some ((6 : Int32), M)) else
  (if x0 = (105 : Int32) then
  (some ((7 : Int32), M)) else
  (if x0 = (106 : Int32) then
  (some ((-1 : Int32), M)) else
  (if x0 = (107 : Int32) then
  (some ((-1 : Int32), M)) else
  (if x0 = (108 : Int32) then
  (some ((-1 : Int32), M)) else
  (if x0 = (109 : Int32) then
  (some ((-1 : Int32), M)) else
  (if x0 = (110 : Int32) then
  (some ((3 : Int32), M)) else
  (if x0 = (111 : Int32) then
  (some ((8 : Int32), M)) else
  (if x0 = (112 : Int32) then
  (some ((-1 : Int32), M)) else
  (if x0 = (113 : Int32) then
  (some ((-1 : Int32), M)) else
  (if x0 = (114 : Int32) then
  (some ((-1 : Int32), M)) else
  (if x0 = (115 : Int32) then
  (some ((2 : Int32), M)) else
  (if x0 = (116 : Int32) then
  (some ((-1 : Int32), M)) else
  (if x0 = (117 : Int32) then
  (some ((-1 : Int32), M)) else
  (if x0 = (118 : Int32) then
  (some ((-1 : Int32), M)) else
  (if x0 = (119 : Int32) then
  (some ((9 : Int32), M)) else
  (if x0 = (120 : Int32) then
  (some ((-1 : Int32), M)) else
  (if x0 = (121 : Int32) then
  (some ((4 : Int32), M)) else
  (some ((-1 : Int32), M)))))))))))))))))))))))
theorem mt_1225 : MT 1225 K_1225 LN_12 := ⟨rfl, rfl, by decide +kernel⟩
theorem okm_1225 : OKm 1225 := ⟨⟨vE_1225, okL_12, by decide +kernel⟩, by decide +kernel, by decide +kernel, by decide +kernel⟩
set_option maxRecDepth 20000 in
theorem qmd_factOf_ok (d : Nat) (hd : 1 ≤ d) {x0 : Int32} {M : SM} {r : Int32} {Mz : SM} (hs : qmd_factOf x0 M = some (r, Mz)) : Ex d 1225 [.int x0] (gm M) (some (.int r), gm Mz) := by
  obtain ⟨d, rfl⟩ : ∃ d0, d = d0 + 1 := ⟨d - 1, by omega⟩
  refine Ex.of okm_1225 (by omega) (Nat.le_of_ble_eq_true rfl) ?_
  show Rc (d + 1) 1225 (0, [.int x0], [], gm M) _
  unfold qmd_factOf at hs
  refine Rc.goL mt_1225 1 (f2 := (swl [(100, 106), (101, 128), (102, 114), (103, 104), (104, 116), (105, 119), (106, 128), (107, 128), (108, 128), (109, 128), (110, 110), (111, 122), (112, 128), (113, 128), (114, 128), (115, 108), (116, 128), (117, 128), (118, 128), (119, 125), (120, 128), (121, 112)] 128 x0, [.int x0], [], gm M)) (b := true) rfl rfl ?_
  by_cases h1 : x0 = (100 : Int32)
  · rw [if_pos h1] at hs
    rw [show swl [(100, 106), (101, 128), (102, 114), (103, 104), (104, 116), (105, 119), (106, 128), (107, 128), (108, 128), (109, 128), (110, 110), (111, 122), (112, 128), (113, 128), (114, 128), (115, 108), (116, 128), (117, 128), (118, 128), (119, 125), (120, 128), (121, 112)] 128 x0 = 106 by first | (simp only [swl, if_pos h1]; done) | (rw [h1]; decide)]
    refine Rc.goL mt_1225 0 (f2 := (107, [.int x0], [.int (1 : Int32)], gm M)) (b := true) rfl rfl ?_
    obtain ⟨e1, e2⟩ := some_p hs; subst e1; subst e2
    exact Rc.ret (v := some (.int (1 : Int32))) rfl rfl
  · rw [if_neg h1] at hs
    by_cases h2 : x0 = (101 : Int32)
    · rw [if_pos h2] at hs
      rw [show swl [(100, 106), (101, 128), (102, 114), (103, 104), (104, 116), (105, 119), (106, 128), (107, 128), (108, 128), (109, 128), (110, 110), (111, 122), (112, 128), (113, 128), (114, 128), (115, 108), (116, 128), (117, 128), (118, 128), (119, 125), (120, 128), (121, 112)] 128 x0 = 128 by first | (simp only [swl, if_pos h2]; done) | (rw [h2]; decide)]
      refine Rc.goL mt_1225 0 (f2 := (129, [.int x0], [.int (-1 : Int32)], gm M)) (b := true) rfl rfl ?_
      obtain ⟨e1, e2⟩ := some_p hs; subst e1; subst e2
      exact Rc.ret (v := some (.int (-1 : Int32))) rfl rfl
    · rw [if_neg h2] at hs
      by_cases h3 : x0 = (102 : Int32)
      · rw [if_pos h3] at hs
        rw [show swl [(100, 106), (101, 128), (102, 114), (103, 104), (104, 116), (105, 119), (106, 128), (107, 128), (108, 128), (109, 128), (110, 110), (111, 122), (112, 128), (113, 128), (114, 128), (115, 108), (116, 128), (117, 128), (118, 128), (119, 125), (120, 128), (121, 112)] 128 x0 = 114 by first | (simp only [swl, if_pos h3]; done) | (rw [h3]; decide)]
        refine Rc.goL mt_1225 0 (f2 := (115, [.int x0], [.int (5 : Int32)], gm M)) (b := true) rfl rfl ?_
        obtain ⟨e1, e2⟩ := some_p hs; subst e1; subst e2
        exact Rc.ret (v := some (.int (5 : Int32))) rfl rfl
      · rw [if_neg h3] at hs
        by_cases h4 : x0 = (103 : Int32)
        · rw [if_pos h4] at hs
          rw [show swl [(100, 106), (101, 128), (102, 114), (103, 104), (104, 116), (105, 119), (106, 128), (107, 128), (108, 128), (109, 128), (110, 110), (111, 122), (112, 128), (113, 128), (114, 128), (115, 108), (116, 128), (117, 128), (118, 128), (119, 125), (120, 128), (121, 112)] 128 x0 = 104 by first | (simp only [swl, if_pos h4]; done) | (rw [h4]; decide)]
          refine Rc.goL mt_1225 0 (f2 := (105, [.int x0], [.int (0 : Int32)], gm M)) (b := true) rfl rfl ?_
          obtain ⟨e1, e2⟩ := some_p hs; subst e1; subst e2
          exact Rc.ret (v := some (.int (0 : Int32))) rfl rfl
        · rw [if_neg h4] at hs
          by_cases h5 : x0 = (104 : Int32)
          · rw [if_pos h5] at hs
            rw [show swl [(100, 106), (101, 128), (102, 114), (103, 104), (104, 116), (105, 119), (106, 128), (107, 128), (108, 128), (109, 128), (110, 110), (111, 122), (112, 128), (113, 128), (114, 128), (115, 108), (116, 128), (117, 128), (118, 128), (119, 125), (120, 128), (121, 112)] 128 x0 = 116 by first | (simp only [swl, if_pos h5]; done) | (rw [h5]; decide)]
            refine Rc.goL mt_1225 0 (f2 := (118, [.int x0], [.int (6 : Int32)], gm M)) (b := true) rfl rfl ?_
            obtain ⟨e1, e2⟩ := some_p hs; subst e1; subst e2
            exact Rc.ret (v := some (.int (6 : Int32))) rfl rfl
          · rw [if_neg h5] at hs
            by_cases h6 : x0 = (105 : Int32)
            · rw [if_pos h6] at hs
              rw [show swl [(100, 106), (101, 128), (102, 114), (103, 104), (104, 116), (105, 119), (106, 128), (107, 128), (108, 128), (109, 128), (110, 110), (111, 122), (112, 128), (113, 128), (114, 128), (115, 108), (116, 128), (117, 128), (118, 128), (119, 125), (120, 128), (121, 112)] 128 x0 = 119 by first | (simp only [swl, if_pos h6]; done) | (rw [h6]; decide)]
              refine Rc.goL mt_1225 0 (f2 := (121, [.int x0], [.int (7 : Int32)], gm M)) (b := true) rfl rfl ?_
              obtain ⟨e1, e2⟩ := some_p hs; subst e1; subst e2
              exact Rc.ret (v := some (.int (7 : Int32))) rfl rfl
            · rw [if_neg h6] at hs
              by_cases h7 : x0 = (106 : Int32)
              · rw [if_pos h7] at hs
                rw [show swl [(100, 106), (101, 128), (102, 114), (103, 104), (104, 116), (105, 119), (106, 128), (107, 128), (108, 128), (109, 128), (110, 110), (111, 122), (112, 128), (113, 128), (114, 128), (115, 108), (116, 128), (117, 128), (118, 128), (119, 125), (120, 128), (121, 112)] 128 x0 = 128 by first | (simp only [swl, if_pos h7]; done) | (rw [h7]; decide)]
                refine Rc.goL mt_1225 0 (f2 := (129, [.int x0], [.int (-1 : Int32)], gm M)) (b := true) rfl rfl ?_
                obtain ⟨e1, e2⟩ := some_p hs; subst e1; subst e2
                exact Rc.ret (v := some (.int (-1 : Int32))) rfl rfl
              · rw [if_neg h7] at hs
                by_cases h8 : x0 = (107 : Int32)
                · rw [if_pos h8] at hs
                  rw [show swl [(100, 106), (101, 128), (102, 114), (103, 104), (104, 116), (105, 119), (106, 128), (107, 128), (108, 128), (109, 128), (110, 110), (111, 122), (112, 128), (113, 128), (114, 128), (115, 108), (116, 128), (117, 128), (118, 128), (119, 125), (120, 128), (121, 112)] 128 x0 = 128 by first | (simp only [swl, if_pos h8]; done) | (rw [h8]; decide)]
                  refine Rc.goL mt_1225 0 (f2 := (129, [.int x0], [.int (-1 : Int32)], gm M)) (b := true) rfl rfl ?_
                  obtain ⟨e1, e2⟩ := some_p hs; subst e1; subst e2
                  exact Rc.ret (v := some (.int (-1 : Int32))) rfl rfl
                · rw [if_neg h8] at hs
                  by_cases h9 : x0 = (108 : Int32)
                  · rw [if_pos h9] at hs
                    rw [show swl [(100, 106), (101, 128), (102, 114), (103, 104), (104, 116), (105, 119), (106, 128), (107, 128), (108, 128), (109, 128), (110, 110), (111, 122), (112, 128), (113, 128), (114, 128), (115, 108), (116, 128), (117, 128), (118, 128), (119, 125), (120, 128), (121, 112)] 128 x0 = 128 by first | (simp only [swl, if_pos h9]; done) | (rw [h9]; decide)]
                    refine Rc.goL mt_1225 0 (f2 := (129, [.int x0], [.int (-1 : Int32)], gm M)) (b := true) rfl rfl ?_
                    obtain ⟨e1, e2⟩ := some_p hs; subst e1; subst e2
                    exact Rc.ret (v := some (.int (-1 : Int32))) rfl rfl
                  · rw [if_neg h9] at hs
                    by_cases h10 : x0 = (109 : Int32)
                    · rw [if_pos h10] at hs
                      rw [show swl [(100, 106), (101, 128), (102, 114), (103, 104), (104, 116), (105, 119), (106, 128), (107, 128), (108, 128), (109, 128), (110, 110), (111, 122), (112, 128), (113, 128), (114, 128), (115, 108), (116, 128), (117, 128), (118, 128), (119, 125), (120, 128), (121, 112)] 128 x0 = 128 by first | (simp only [swl, if_pos h10]; done) | (rw [h10]; decide)]
                      refine Rc.goL mt_1225 0 (f2 := (129, [.int x0], [.int (-1 : Int32)], gm M)) (b := true) rfl rfl ?_
                      obtain ⟨e1, e2⟩ := some_p hs; subst e1; subst e2
                      exact Rc.ret (v := some (.int (-1 : Int32))) rfl rfl
                    · rw [if_neg h10] at hs
                      by_cases h11 : x0 = (110 : Int32)
                      · rw [if_pos h11] at hs
                        rw [show swl [(100, 106), (101, 128), (102, 114), (103, 104), (104, 116), (105, 119), (106, 128), (107, 128), (108, 128), (109, 128), (110, 110), (111, 122), (112, 128), (113, 128), (114, 128), (115, 108), (116, 128), (117, 128), (118, 128), (119, 125), (120, 128), (121, 112)] 128 x0 = 110 by first | (simp only [swl, if_pos h11]; done) | (rw [h11]; decide)]
                        refine Rc.goL mt_1225 0 (f2 := (111, [.int x0], [.int (3 : Int32)], gm M)) (b := true) rfl rfl ?_
                        obtain ⟨e1, e2⟩ := some_p hs; subst e1; subst e2
                        exact Rc.ret (v := some (.int (3 : Int32))) rfl rfl
                      · rw [if_neg h11] at hs
                        by_cases h12 : x0 = (111 : Int32)
                        · rw [if_pos h12] at hs
                          rw [show swl [(100, 106), (101, 128), (102, 114), (103, 104), (104, 116), (105, 119), (106, 128), (107, 128), (108, 128), (109, 128), (110, 110), (111, 122), (112, 128), (113, 128), (114, 128), (115, 108), (116, 128), (117, 128), (118, 128), (119, 125), (120, 128), (121, 112)] 128 x0 = 122 by first | (simp only [swl, if_pos h12]; done) | (rw [h12]; decide)]
                          refine Rc.goL mt_1225 0 (f2 := (124, [.int x0], [.int (8 : Int32)], gm M)) (b := true) rfl rfl ?_
                          obtain ⟨e1, e2⟩ := some_p hs; subst e1; subst e2
                          exact Rc.ret (v := some (.int (8 : Int32))) rfl rfl
                        · rw [if_neg h12] at hs
                          by_cases h13 : x0 = (112 : Int32)
                          · rw [if_pos h13] at hs
                            rw [show swl [(100, 106), (101, 128), (102, 114), (103, 104), (104, 116), (105, 119), (106, 128), (107, 128), (108, 128), (109, 128), (110, 110), (111, 122), (112, 128), (113, 128), (114, 128), (115, 108), (116, 128), (117, 128), (118, 128), (119, 125), (120, 128), (121, 112)] 128 x0 = 128 by first | (simp only [swl, if_pos h13]; done) | (rw [h13]; decide)]
                            refine Rc.goL mt_1225 0 (f2 := (129, [.int x0], [.int (-1 : Int32)], gm M)) (b := true) rfl rfl ?_
                            obtain ⟨e1, e2⟩ := some_p hs; subst e1; subst e2
                            exact Rc.ret (v := some (.int (-1 : Int32))) rfl rfl
                          · rw [if_neg h13] at hs
                            by_cases h14 : x0 = (113 : Int32)
                            · rw [if_pos h14] at hs
                              rw [show swl [(100, 106), (101, 128), (102, 114), (103, 104), (104, 116), (105, 119), (106, 128), (107, 128), (108, 128), (109, 128), (110, 110), (111, 122), (112, 128), (113, 128), (114, 128), (115, 108), (116, 128), (117, 128), (118, 128), (119, 125), (120, 128), (121, 112)] 128 x0 = 128 by first | (simp only [swl, if_pos h14]; done) | (rw [h14]; decide)]
                              refine Rc.goL mt_1225 0 (f2 := (129, [.int x0], [.int (-1 : Int32)], gm M)) (b := true) rfl rfl ?_
                              obtain ⟨e1, e2⟩ := some_p hs; subst e1; subst e2
                              exact Rc.ret (v := some (.int (-1 : Int32))) rfl rfl
                            · rw [if_neg h14] at hs
                              by_cases h15 : x0 = (114 : Int32)
                              · rw [if_pos h15] at hs
                                rw [show swl [(100, 106), (101, 128), (102, 114), (103, 104), (104, 116), (105, 119), (106, 128), (107, 128), (108, 128), (109, 128), (110, 110), (111, 122), (112, 128), (113, 128), (114, 128), (115, 108), (116, 128), (117, 128), (118, 128), (119, 125), (120, 128), (121, 112)] 128 x0 = 128 by first | (simp only [swl, if_pos h15]; done) | (rw [h15]; decide)]
                                refine Rc.goL mt_1225 0 (f2 := (129, [.int x0], [.int (-1 : Int32)], gm M)) (b := true) rfl rfl ?_
                                obtain ⟨e1, e2⟩ := some_p hs; subst e1; subst e2
                                exact Rc.ret (v := some (.int (-1 : Int32))) rfl rfl
                              · rw [if_neg h15] at hs
                                by_cases h16 : x0 = (115 : Int32)
                                · rw [if_pos h16] at hs
                                  rw [show swl [(100, 106), (101, 128), (102, 114), (103, 104), (104, 116), (105, 119), (106, 128), (107, 128), (108, 128), (109, 128), (110, 110), (111, 122), (112, 128), (113, 128), (114, 128), (115, 108), (116, 128), (117, 128), (118, 128), (119, 125), (120, 128), (121, 112)] 128 x0 = 108 by first | (simp only [swl, if_pos h16]; done) | (rw [h16]; decide)]
                                  refine Rc.goL mt_1225 0 (f2 := (109, [.int x0], [.int (2 : Int32)], gm M)) (b := true) rfl rfl ?_
                                  obtain ⟨e1, e2⟩ := some_p hs; subst e1; subst e2
                                  exact Rc.ret (v := some (.int (2 : Int32))) rfl rfl
                                · rw [if_neg h16] at hs
                                  by_cases h17 : x0 = (116 : Int32)
                                  · rw [if_pos h17] at hs
                                    rw [show swl [(100, 106), (101, 128), (102, 114), (103, 104), (104, 116), (105, 119), (106, 128), (107, 128), (108, 128), (109, 128), (110, 110), (111, 122), (112, 128), (113, 128), (114, 128), (115, 108), (116, 128), (117, 128), (118, 128), (119, 125), (120, 128), (121, 112)] 128 x0 = 128 by first | (simp only [swl, if_pos h17]; done) | (rw [h17]; decide)]
                                    refine Rc.goL mt_1225 0 (f2 := (129, [.int x0], [.int (-1 : Int32)], gm M)) (b := true) rfl rfl ?_
                                    obtain ⟨e1, e2⟩ := some_p hs; subst e1; subst e2
                                    exact Rc.ret (v := some (.int (-1 : Int32))) rfl rfl
                                  · rw [if_neg h17] at hs
                                    by_cases h18 : x0 = (117 : Int32)
                                    · rw [if_pos h18] at hs
                                      rw [show swl [(100, 106), (101, 128), (102, 114), (103, 104), (104, 116), (105, 119), (106, 128), (107, 128), (108, 128), (109, 128), (110, 110), (111, 122), (112, 128), (113, 128), (114, 128), (115, 108), (116, 128), (117, 128), (118, 128), (119, 125), (120, 128), (121, 112)] 128 x0 = 128 by first | (simp only [swl, if_pos h18]; done) | (rw [h18]; decide)]
                                      refine Rc.goL mt_1225 0 (f2 := (129, [.int x0], [.int (-1 : Int32)], gm M)) (b := true) rfl rfl ?_
                                      obtain ⟨e1, e2⟩ := some_p hs; subst e1; subst e2
                                      exact Rc.ret (v := some (.int (-1 : Int32))) rfl rfl
                                    · rw [if_neg h18] at hs
                                      by_cases h19 : x0 = (118 : Int32)
                                      · rw [if_pos h19] at hs
                                        rw [show swl [(100, 106), (101, 128), (102, 114), (103, 104), (104, 116), (105, 119), (106, 128), (107, 128), (108, 128), (109, 128), (110, 110), (111, 122), (112, 128), (113, 128), (114, 128), (115, 108), (116, 128), (117, 128), (118, 128), (119, 125), (120, 128), (121, 112)] 128 x0 = 128 by first | (simp only [swl, if_pos h19]; done) | (rw [h19]; decide)]
                                        refine Rc.goL mt_1225 0 (f2 := (129, [.int x0], [.int (-1 : Int32)], gm M)) (b := true) rfl rfl ?_
                                        obtain ⟨e1, e2⟩ := some_p hs; subst e1; subst e2
                                        exact Rc.ret (v := some (.int (-1 : Int32))) rfl rfl
                                      · rw [if_neg h19] at hs
                                        by_cases h20 : x0 = (119 : Int32)
                                        · rw [if_pos h20] at hs
                                          rw [show swl [(100, 106), (101, 128), (102, 114), (103, 104), (104, 116), (105, 119), (106, 128), (107, 128), (108, 128), (109, 128), (110, 110), (111, 122), (112, 128), (113, 128), (114, 128), (115, 108), (116, 128), (117, 128), (118, 128), (119, 125), (120, 128), (121, 112)] 128 x0 = 125 by first | (simp only [swl, if_pos h20]; done) | (rw [h20]; decide)]
                                          refine Rc.goL mt_1225 0 (f2 := (127, [.int x0], [.int (9 : Int32)], gm M)) (b := true) rfl rfl ?_
                                          obtain ⟨e1, e2⟩ := some_p hs; subst e1; subst e2
                                          exact Rc.ret (v := some (.int (9 : Int32))) rfl rfl
                                        · rw [if_neg h20] at hs
                                          by_cases h21 : x0 = (120 : Int32)
                                          · rw [if_pos h21] at hs
                                            rw [show swl [(100, 106), (101, 128), (102, 114), (103, 104), (104, 116), (105, 119), (106, 128), (107, 128), (108, 128), (109, 128), (110, 110), (111, 122), (112, 128), (113, 128), (114, 128), (115, 108), (116, 128), (117, 128), (118, 128), (119, 125), (120, 128), (121, 112)] 128 x0 = 128 by first | (simp only [swl, if_pos h21]; done) | (rw [h21]; decide)]
                                            refine Rc.goL mt_1225 0 (f2 := (129, [.int x0], [.int (-1 : Int32)], gm M)) (b := true) rfl rfl ?_
                                            obtain ⟨e1, e2⟩ := some_p hs; subst e1; subst e2
                                            exact Rc.ret (v := some (.int (-1 : Int32))) rfl rfl
                                          · rw [if_neg h21] at hs
                                            by_cases h22 : x0 = (121 : Int32)
                                            · rw [if_pos h22] at hs
                                              rw [show swl [(100, 106), (101, 128), (102, 114), (103, 104), (104, 116), (105, 119), (106, 128), (107, 128), (108, 128), (109, 128), (110, 110), (111, 122), (112, 128), (113, 128), (114, 128), (115, 108), (116, 128), (117, 128), (118, 128), (119, 125), (120, 128), (121, 112)] 128 x0 = 112 by first | (simp only [swl, if_pos h22]; done) | (rw [h22]; decide)]
                                              refine Rc.goL mt_1225 0 (f2 := (113, [.int x0], [.int (4 : Int32)], gm M)) (b := true) rfl rfl ?_
                                              obtain ⟨e1, e2⟩ := some_p hs; subst e1; subst e2
                                              exact Rc.ret (v := some (.int (4 : Int32))) rfl rfl
                                            · rw [if_neg h22] at hs
                                              rw [show swl [(100, 106), (101, 128), (102, 114), (103, 104), (104, 116), (105, 119), (106, 128), (107, 128), (108, 128), (109, 128), (110, 110), (111, 122), (112, 128), (113, 128), (114, 128), (115, 108), (116, 128), (117, 128), (118, 128), (119, 125), (120, 128), (121, 112)] 128 x0 = 128 by simp only [swl, if_neg h1, if_neg h2, if_neg h3, if_neg h4, if_neg h5, if_neg h6, if_neg h7, if_neg h8, if_neg h9, if_neg h10, if_neg h11, if_neg h12, if_neg h13, if_neg h14, if_neg h15, if_neg h16, if_neg h17, if_neg h18, if_neg h19, if_neg h20, if_neg h21, if_neg h22]]
                                              refine Rc.goL mt_1225 0 (f2 := (129, [.int x0], [.int (-1 : Int32)], gm M)) (b := true) rfl rfl ?_
                                              obtain ⟨e1, e2⟩ := some_p hs; subst e1; subst e2
                                              exact Rc.ret (v := some (.int (-1 : Int32))) rfl rfl
def qmd_isLetter (x0 : Int32) (M : SM) : Option (Int32 × SM) :=
  if x0 < (65 : Int32) then
  (some ((0 : Int32), M)) else
  (if (90 : Int32) < x0 then
    (some ((0 : Int32), M)) else
    (some ((1 : Int32), M)))
theorem mt_1226 : MT 1226 K_1226 LN_12 := ⟨rfl, rfl, by decide +kernel⟩
theorem okm_1226 : OKm 1226 := ⟨⟨vE_1226, okL_12, by decide +kernel⟩, by decide +kernel, by decide +kernel, by decide +kernel⟩
set_option maxRecDepth 20000 in
theorem qmd_isLetter_ok (d : Nat) (hd : 1 ≤ d) {x0 : Int32} {M : SM} {r : Int32} {Mz : SM} (hs : qmd_isLetter x0 M = some (r, Mz)) : Ex d 1226 [.int x0] (gm M) (some (.int r), gm Mz) := by
  obtain ⟨d, rfl⟩ : ∃ d0, d = d0 + 1 := ⟨d - 1, by omega⟩
  refine Ex.of okm_1226 (by omega) (Nat.le_of_ble_eq_true rfl) ?_
  show Rc (d + 1) 1226 (0, [.int x0], [], gm M) _
  unfold qmd_isLetter at hs
  by_cases h2 : x0 < (65 : Int32)
  · rw [if_pos h2] at hs
    refine Rc.goL mt_1226 2 (f2 := (if x0 < (65 : Int32) then 16 else 6, [.int x0], [], gm M)) (b := true) rfl rfl ?_
    rw [if_pos h2]
    refine Rc.goL mt_1226 0 (f2 := (17, [.int x0], [.int (0 : Int32)], gm M)) (b := true) rfl rfl ?_
    obtain ⟨e1, e2⟩ := some_p hs; subst e1; subst e2
    exact Rc.ret (v := some (.int (0 : Int32))) rfl rfl
  · rw [if_neg h2] at hs
    refine Rc.goL mt_1226 2 (f2 := (if x0 < (65 : Int32) then 16 else 6, [.int x0], [], gm M)) (b := true) rfl rfl ?_
    rw [if_neg h2]
    by_cases h1 : (90 : Int32) < x0
    · rw [if_pos h1] at hs
      refine Rc.goL mt_1226 2 (f2 := (if (90 : Int32) < x0 then 16 else 12, [.int x0], [], gm M)) (b := true) rfl rfl ?_
      rw [if_pos h1]
      refine Rc.goL mt_1226 0 (f2 := (17, [.int x0], [.int (0 : Int32)], gm M)) (b := true) rfl rfl ?_
      obtain ⟨e1, e2⟩ := some_p hs; subst e1; subst e2
      exact Rc.ret (v := some (.int (0 : Int32))) rfl rfl
    · rw [if_neg h1] at hs
      refine Rc.goL mt_1226 2 (f2 := (if (90 : Int32) < x0 then 16 else 12, [.int x0], [], gm M)) (b := true) rfl rfl ?_
      rw [if_neg h1]
      refine Rc.goL mt_1226 1 (f2 := (17, [.int x0], [.int (1 : Int32)], gm M)) (b := true) rfl rfl ?_
      obtain ⟨e1, e2⟩ := some_p hs; subst e1; subst e2
      exact Rc.ret (v := some (.int (1 : Int32))) rfl rfl
def qmd_isDigit (x0 : Int32) (M : SM) : Option (Int32 × SM) :=
  if x0 < (48 : Int32) then
  (some ((0 : Int32), M)) else
  (if (57 : Int32) < x0 then
    (some ((0 : Int32), M)) else
    (some ((1 : Int32), M)))
theorem mt_1227 : MT 1227 K_1227 LN_12 := ⟨rfl, rfl, by decide +kernel⟩
theorem okm_1227 : OKm 1227 := ⟨⟨vE_1227, okL_12, by decide +kernel⟩, by decide +kernel, by decide +kernel, by decide +kernel⟩
set_option maxRecDepth 20000 in
theorem qmd_isDigit_ok (d : Nat) (hd : 1 ≤ d) {x0 : Int32} {M : SM} {r : Int32} {Mz : SM} (hs : qmd_isDigit x0 M = some (r, Mz)) : Ex d 1227 [.int x0] (gm M) (some (.int r), gm Mz) := by
  obtain ⟨d, rfl⟩ : ∃ d0, d = d0 + 1 := ⟨d - 1, by omega⟩
  refine Ex.of okm_1227 (by omega) (Nat.le_of_ble_eq_true rfl) ?_
  show Rc (d + 1) 1227 (0, [.int x0], [], gm M) _
  unfold qmd_isDigit at hs
  by_cases h2 : x0 < (48 : Int32)
  · rw [if_pos h2] at hs
    refine Rc.goL mt_1227 2 (f2 := (if x0 < (48 : Int32) then 16 else 6, [.int x0], [], gm M)) (b := true) rfl rfl ?_
    rw [if_pos h2]
    refine Rc.goL mt_1227 0 (f2 := (17, [.int x0], [.int (0 : Int32)], gm M)) (b := true) rfl rfl ?_
    obtain ⟨e1, e2⟩ := some_p hs; subst e1; subst e2
    exact Rc.ret (v := some (.int (0 : Int32))) rfl rfl
  · rw [if_neg h2] at hs
    refine Rc.goL mt_1227 2 (f2 := (if x0 < (48 : Int32) then 16 else 6, [.int x0], [], gm M)) (b := true) rfl rfl ?_
    rw [if_neg h2]
    by_cases h1 : (57 : Int32) < x0
    · rw [if_pos h1] at hs
      refine Rc.goL mt_1227 2 (f2 := (if (57 : Int32) < x0 then 16 else 12, [.int x0], [], gm M)) (b := true) rfl rfl ?_
      rw [if_pos h1]
      refine Rc.goL mt_1227 0 (f2 := (17, [.int x0], [.int (0 : Int32)], gm M)) (b := true) rfl rfl ?_
      obtain ⟨e1, e2⟩ := some_p hs; subst e1; subst e2
      exact Rc.ret (v := some (.int (0 : Int32))) rfl rfl
    · rw [if_neg h1] at hs
      refine Rc.goL mt_1227 2 (f2 := (if (57 : Int32) < x0 then 16 else 12, [.int x0], [], gm M)) (b := true) rfl rfl ?_
      rw [if_neg h1]
      refine Rc.goL mt_1227 1 (f2 := (17, [.int x0], [.int (1 : Int32)], gm M)) (b := true) rfl rfl ?_
      obtain ⟨e1, e2⟩ := some_p hs; subst e1; subst e2
      exact Rc.ret (v := some (.int (1 : Int32))) rfl rfl
def qmd_readsFactor_L0 (k18 : SM → Option (Int32 × SM)) (k58 : SM → Option (Int32 × SM)) : Nat → SM → Option (Int32 × SM)
  | 0, _ => none
  | n + 1, M =>
    ob (qmd_sign M) (fun r1 M2 =>
    if r1 = (40 : Int32) then
    (if (M2.1 280 17) = (6 : Int32) then
      (k18 M2) else
      (ob (qmd_holds (15 : Int32) (0 : Int32) (wI M2 280 17 ((M2.1 280 17) + (1 : Int32)))) (fun _ M4 =>
        qmd_readsFactor_L0 k18 k58 n (wI M4 280 14 ((M4.1 280 14) + (1 : Int32)))))) else
    (k58 M2))
def qmd_readsFactor_L77 (k98 : SM → Option (Int32 × SM)) (k134 : Int32 → SM → Option (Int32 × SM)) : Nat → Int32 → Int32 → SM → Option (Int32 × SM)
  | 0, _, _, _ => none
  | n + 1, x2, x3, M =>
    ob (qmd_sign M) (fun r57 M58 =>
    ob (qmd_isDigit r57 M58) (fun r60 M61 =>
    if r60 = 0 then
    (k134 x3 M61) else
    (if (M61.1 280 14) = (x2 + (6 : Int32)) then
      (k98 M61) else
      (ob (qmd_sign M61) (fun r63 M64 =>
        qmd_readsFactor_L77 k98 k134 n x2 ((((10 : Int32) * x3) + r63) - (48 : Int32)) (wI M64 280 14 ((M64.1 280 14) + (1 : Int32))))))))
def qmd_readsFactor (M : SM) : Option (Int32 × SM) :=
  qmd_readsFactor_L0 (fun M9 =>
  ob (qmd_wrong (5 : Int32) (M9.1 280 14) M9) (fun r10 M11 =>
    ck (decide (r10 = 0) || decide (r10 = 1)) (some (r10, M11)))) (fun M14 =>
  ob (qmd_sign M14) (fun r15 M16 =>
    ob (qmd_isDigit r15 M16) (fun r18 M19 =>
    if r18 = 0 then
    (ob (qmd_isLetter r15 M19) (fun r21 M22 =>
      jn (fun (x1_24 : Int32) (M25 : SM) =>
        ob (qmd_isLetter x1_24 M25) (fun r26 M27 =>
          jn (fun (x1_29 : Int32) (t30 : Int32) (M31 : SM) =>
            ob (qmd_isLetter x1_29 M31) (fun r32 M33 =>
              jn (fun (t35 : Int32) (M36 : SM) =>
                ob (qmd_says t30 t35 M36) (fun _ M37 =>
                  some ((1 : Int32), (wI M37 280 14 ((M37.1 280 14) + (1 : Int32)))))) (fun j40 =>
              if r32 = 0 then
              (ob (qmd_factOf x1_29 M33) (fun r41 M42 =>
                j40 r41 M42)) else
              (j40 (x1_29 - (65 : Int32)) M33)))) (fun j45 =>
          if r26 = 0 then
          (j45 x1_24 (2 : Int32) M27) else
          (j45 x1_24 (1 : Int32) M27)))) (fun j47 =>
      if r21 = 0 then
      (ob (qmd_factOf r15 M22) (fun r48 M49 =>
        if r48 = (-1 : Int32) then
        (ob (qmd_wrong (1 : Int32) (M49.1 280 14) M49) (fun r51 M52 =>
          ck (decide (r51 = 0) || decide (r51 = 1)) (some (r51, M52)))) else
        (j47 r15 M49))) else
      (j47 r15 M22)))) else
    (qmd_readsFactor_L77 (fun M68 =>
      ob (qmd_wrong (2 : Int32) (M68.1 280 14) M68) (fun r69 M70 =>
        ck (decide (r69 = 0) || decide (r69 = 1)) (some (r69, M70)))) (fun y3_73 M74 =>
      ob (qmd_says (0 : Int32) y3_73 M74) (fun _ M75 =>
        some ((1 : Int32), M75))) FU (M19.1 280 14) (0 : Int32) M19)))) FU M
theorem mt_1228 : MT 1228 K_1228 LN_12 := ⟨rfl, rfl, by decide +kernel⟩
theorem okm_1228 : OKm 1228 := ⟨⟨vE_1228, okL_12, by decide +kernel⟩, by decide +kernel, by decide +kernel, by decide +kernel⟩
set_option maxRecDepth 20000 in
theorem qmd_readsFactor_L0_ok (d : Nat) (hd : 2 ≤ d + 1) (k18 : SM → Option (Int32 × SM)) (k58 : SM → Option (Int32 × SM)) (hk18 : ∀ (M : SM) (r : Int32) (Mz : SM), k18 M = some (r, Mz) → Rc (d + 1) 1228 (18, [.ref 280, UU, UU, UU], [], gm M) (some (.int r), gm Mz)) (hk58 : ∀ (M : SM) (r : Int32) (Mz : SM), k58 M = some (r, Mz) → Rc (d + 1) 1228 (58, [.ref 280, UU, UU, UU], [], gm M) (some (.int r), gm Mz)) : ∀ (n : Nat) (M : SM) (r : Int32) (Mz : SM), qmd_readsFactor_L0 k18 k58 n M = some (r, Mz) → Rc (d + 1) 1228 (0, [.ref 280, UU, UU, UU], [], gm M) (some (.int r), gm Mz) := by
  intro n
  induction n with
  | zero => intro  M r Mz hs; cases hs
  | succ n ih =>
    intro  M r Mz hs
    rw [qmd_readsFactor_L0] at hs
    refine Rc.goL mt_1228 0 (f2 := (1, [.ref 280, UU, UU, UU], [.ref 280], gm M)) (b := true) rfl rfl ?_
    obtain ⟨r1, M2, he3, hs⟩ := ob_some hs
    refine Rc.callV (i := 253) (mid' := 1215) (av := []) (rest := []) (v := some (.int r1)) (M1 := gm M2) (a := 280) rfl rfl rfl cw_1215 rfl (Nat.le_of_ble_eq_true rfl) rfl (Nat.le_of_ble_eq_true rfl) (qmd_sign_ok _ (by omega) he3) ?_
    by_cases h8 : r1 = (40 : Int32)
    · rw [if_pos h8] at hs
      refine Rc.goL mt_1228 1 (f2 := (if r1 = (40 : Int32) then 9 else 58, [.ref 280, UU, UU, UU], [], gm M2)) (b := true) rfl rfl ?_
      rw [if_pos h8]
      by_cases h7 : (M2.1 280 17) = (6 : Int32)
      · rw [if_pos h7] at hs
        refine Rc.goL mt_1228 3 (f2 := (if (M2.1 280 17) = (6 : Int32) then 18 else 28, [.ref 280, UU, UU, UU], [], gm M2)) (b := true) rfl rfl ?_
        rw [if_pos h7]
        refine Rc.less (ls2 := [.ref 280, UU, UU, UU]) (by refine ⟨Or.inr rfl, Or.inl rfl, Or.inl rfl, Or.inl rfl, trivial⟩) ?_
        exact hk18 _ _ _ hs
      · rw [if_neg h7] at hs
        refine Rc.goL mt_1228 3 (f2 := (if (M2.1 280 17) = (6 : Int32) then 18 else 28, [.ref 280, UU, UU, UU], [], gm M2)) (b := true) rfl rfl ?_
        rw [if_neg h7]
        refine Rc.goL mt_1228 5 (f2 := (38, [.ref 280, UU, UU, UU], [], gm (wI M2 280 17 ((M2.1 280 17) + (1 : Int32))))) (b := true) rfl rfl ?_
        refine Rc.goL mt_1228 2 (f2 := (42, [.ref 280, UU, UU, UU], [.int (0 : Int32), .int (15 : Int32), .ref 280], gm (wI M2 280 17 ((M2.1 280 17) + (1 : Int32))))) (b := true) rfl rfl ?_
        obtain ⟨u6, M4, he5, hs⟩ := ob_some hs
        refine Rc.callV (i := 263) (mid' := 1218) (av := [.int (15 : Int32), .int (0 : Int32)]) (rest := []) (v := none) (M1 := gm M4) (a := 280) rfl rfl rfl cw_1218 rfl (Nat.le_of_ble_eq_true rfl) rfl (Nat.le_of_ble_eq_true rfl) (qmd_holds_ok _ (by omega) he5) ?_
        refine Rc.goL mt_1228 5 (f2 := (55, [.ref 280, UU, UU, UU], [], gm (wI M4 280 14 ((M4.1 280 14) + (1 : Int32))))) (b := true) rfl rfl ?_
        refine Rc.goL mt_1228 0 (f2 := (0, [.ref 280, UU, UU, UU], [], gm (wI M4 280 14 ((M4.1 280 14) + (1 : Int32))))) (b := true) rfl rfl ?_
        refine Rc.less (ls2 := [.ref 280, UU, UU, UU]) (by refine ⟨Or.inr rfl, Or.inl rfl, Or.inl rfl, Or.inl rfl, trivial⟩) ?_
        exact ih _ _ _ hs
    · rw [if_neg h8] at hs
      refine Rc.goL mt_1228 1 (f2 := (if r1 = (40 : Int32) then 9 else 58, [.ref 280, UU, UU, UU], [], gm M2)) (b := true) rfl rfl ?_
      rw [if_neg h8]
      refine Rc.less (ls2 := [.ref 280, UU, UU, UU]) (by refine ⟨Or.inr rfl, Or.inl rfl, Or.inl rfl, Or.inl rfl, trivial⟩) ?_
      exact hk58 _ _ _ hs
set_option maxRecDepth 20000 in
theorem qmd_readsFactor_L77_ok (d : Nat) (hd : 2 ≤ d + 1) (k98 : SM → Option (Int32 × SM)) (k134 : Int32 → SM → Option (Int32 × SM)) (hk98 : ∀ (M : SM) (r : Int32) (Mz : SM), k98 M = some (r, Mz) → Rc (d + 1) 1228 (98, [.ref 280, UU, UU, UU], [], gm M) (some (.int r), gm Mz)) (hk134 : ∀ (y3 : Int32) (M : SM) (r : Int32) (Mz : SM), k134 y3 M = some (r, Mz) → Rc (d + 1) 1228 (134, [.ref 280, UU, UU, .int y3], [], gm M) (some (.int r), gm Mz)) : ∀ (n : Nat) (x2 : Int32) (x3 : Int32) (M : SM) (r : Int32) (Mz : SM), qmd_readsFactor_L77 k98 k134 n x2 x3 M = some (r, Mz) → Rc (d + 1) 1228 (77, [.ref 280, UU, .int x2, .int x3], [], gm M) (some (.int r), gm Mz) := by
  intro n
  induction n with
  | zero => intro x2 x3 M r Mz hs; cases hs
  | succ n ih =>
    intro x2 x3 M r Mz hs
    rw [qmd_readsFactor_L77] at hs
    refine Rc.goL mt_1228 0 (f2 := (78, [.ref 280, UU, .int x2, .int x3], [.ref 280], gm M)) (b := true) rfl rfl ?_
    obtain ⟨r57, M58, he59, hs⟩ := ob_some hs
    refine Rc.callV (i := 253) (mid' := 1215) (av := []) (rest := []) (v := some (.int r57)) (M1 := gm M58) (a := 280) rfl rfl rfl cw_1215 rfl (Nat.le_of_ble_eq_true rfl) rfl (Nat.le_of_ble_eq_true rfl) (qmd_sign_ok _ (by omega) he59) ?_
    obtain ⟨r60, M61, he62, hs⟩ := ob_some hs
    refine Rc.callS (i := 266) (mid' := 1227) (av := [.int r57]) (rest := []) (v := some (.int r60)) (M1 := gm M61) rfl (Or.inl rfl) rfl cw_1227 rfl (Nat.le_of_ble_eq_true rfl) (qmd_isDigit_ok _ (by omega) he62) ?_
    by_cases h67 : r60 = 0
    · rw [if_pos h67] at hs
      refine Rc.goL mt_1228 0 (f2 := (if r60 = 0 then 134 else 87, [.ref 280, UU, .int x2, .int x3], [], gm M61)) (b := true) rfl rfl ?_
      rw [if_pos h67]
      refine Rc.less (ls2 := [.ref 280, UU, UU, .int x3]) (by refine ⟨Or.inr rfl, Or.inl rfl, Or.inl rfl, Or.inr rfl, trivial⟩) ?_
      exact hk134 x3 _ _ _ hs
    · rw [if_neg h67] at hs
      refine Rc.goL mt_1228 0 (f2 := (if r60 = 0 then 134 else 87, [.ref 280, UU, .int x2, .int x3], [], gm M61)) (b := true) rfl rfl ?_
      rw [if_neg h67]
      by_cases h66 : (M61.1 280 14) = (x2 + (6 : Int32))
      · rw [if_pos h66] at hs
        refine Rc.goL mt_1228 5 (f2 := (if (M61.1 280 14) = (x2 + (6 : Int32)) then 98 else 108, [.ref 280, UU, .int x2, .int x3], [], gm M61)) (b := true) rfl rfl ?_
        rw [if_pos h66]
        refine Rc.less (ls2 := [.ref 280, UU, UU, UU]) (by refine ⟨Or.inr rfl, Or.inl rfl, Or.inl rfl, Or.inl rfl, trivial⟩) ?_
        exact hk98 _ _ _ hs
      · rw [if_neg h66] at hs
        refine Rc.goL mt_1228 5 (f2 := (if (M61.1 280 14) = (x2 + (6 : Int32)) then 98 else 108, [.ref 280, UU, .int x2, .int x3], [], gm M61)) (b := true) rfl rfl ?_
        rw [if_neg h66]
        refine Rc.goL mt_1228 3 (f2 := (113, [.ref 280, UU, .int x2, .int x3], [.ref 280, .int ((10 : Int32) * x3)], gm M61)) (b := true) rfl rfl ?_
        obtain ⟨r63, M64, he65, hs⟩ := ob_some hs
        refine Rc.callV (i := 253) (mid' := 1215) (av := []) (rest := [.int ((10 : Int32) * x3)]) (v := some (.int r63)) (M1 := gm M64) (a := 280) rfl rfl rfl cw_1215 rfl (Nat.le_of_ble_eq_true rfl) rfl (Nat.le_of_ble_eq_true rfl) (qmd_sign_ok _ (by omega) he65) ?_
        refine Rc.goL mt_1228 6 (f2 := (126, [.ref 280, UU, .int x2, .int ((((10 : Int32) * x3) + r63) - (48 : Int32))], [.int (M64.1 280 14), .ref 280], gm M64)) (b := true) rfl rfl ?_
        refine Rc.goL mt_1228 2 (f2 := (131, [.ref 280, UU, .int x2, .int ((((10 : Int32) * x3) + r63) - (48 : Int32))], [], gm (wI M64 280 14 ((M64.1 280 14) + (1 : Int32))))) (b := true) rfl rfl ?_
        refine Rc.goL mt_1228 0 (f2 := (77, [.ref 280, UU, .int x2, .int ((((10 : Int32) * x3) + r63) - (48 : Int32))], [], gm (wI M64 280 14 ((M64.1 280 14) + (1 : Int32))))) (b := true) rfl rfl ?_
        refine Rc.less (ls2 := [.ref 280, UU, .int x2, .int ((((10 : Int32) * x3) + r63) - (48 : Int32))]) (by refine ⟨Or.inr rfl, Or.inl rfl, Or.inr rfl, Or.inr rfl, trivial⟩) ?_
        exact ih x2 ((((10 : Int32) * x3) + r63) - (48 : Int32)) _ _ _ hs
set_option maxRecDepth 20000 in
theorem qmd_readsFactor_ok (d : Nat) (hd : 2 ≤ d) {M : SM} {r : Int32} {Mz : SM} (hs : qmd_readsFactor M = some (r, Mz)) : Ex d 1228 [.ref 280] (gm M) (some (.int r), gm Mz) := by
  obtain ⟨d, rfl⟩ : ∃ d0, d = d0 + 1 := ⟨d - 1, by omega⟩
  refine Ex.of okm_1228 (by omega) (Nat.le_of_ble_eq_true rfl) ?_
  show Rc (d + 1) 1228 (0, [.ref 280, UU, UU, UU], [], gm M) _
  unfold qmd_readsFactor at hs
  refine Rc.less (ls2 := [.ref 280, UU, UU, UU]) (by refine ⟨Or.inr rfl, Or.inl rfl, Or.inl rfl, Or.inl rfl, trivial⟩) ?_
  refine qmd_readsFactor_L0_ok d hd _ _ (fun M9 r Mz hs => ?_) (fun M14 r Mz hs => ?_) _ _ _ _ hs
  · refine Rc.goL mt_1228 3 (f2 := (24, [.ref 280, UU, UU, UU], [.int (M9.1 280 14), .int (5 : Int32), .ref 280], gm M9)) (b := true) rfl rfl ?_
    obtain ⟨r10, M11, he12, hs⟩ := ob_some hs
    refine Rc.callV (i := 259) (mid' := 1216) (av := [.int (5 : Int32), .int (M9.1 280 14)]) (rest := []) (v := some (.int r10)) (M1 := gm M11) (a := 280) rfl rfl rfl cw_1216 rfl (Nat.le_of_ble_eq_true rfl) rfl (Nat.le_of_ble_eq_true rfl) (qmd_wrong_ok _ (by omega) he12) ?_
    obtain ⟨hc13, hs⟩ := ck_some hs
    obtain ⟨e1, e2⟩ := some_p hs; subst e1; subst e2
    exact Rc.ret (v := some (.int r10)) rfl hc13
  · refine Rc.goL mt_1228 0 (f2 := (59, [.ref 280, UU, UU, UU], [.ref 280], gm M14)) (b := true) rfl rfl ?_
    obtain ⟨r15, M16, he17, hs⟩ := ob_some hs
    refine Rc.callV (i := 253) (mid' := 1215) (av := []) (rest := []) (v := some (.int r15)) (M1 := gm M16) (a := 280) rfl rfl rfl cw_1215 rfl (Nat.le_of_ble_eq_true rfl) rfl (Nat.le_of_ble_eq_true rfl) (qmd_sign_ok _ (by omega) he17) ?_
    refine Rc.goL mt_1228 1 (f2 := (64, [.ref 280, .int r15, UU, UU], [.int r15], gm M16)) (b := true) rfl rfl ?_
    obtain ⟨r18, M19, he20, hs⟩ := ob_some hs
    refine Rc.callS (i := 266) (mid' := 1227) (av := [.int r15]) (rest := []) (v := some (.int r18)) (M1 := gm M19) rfl (Or.inl rfl) rfl cw_1227 rfl (Nat.le_of_ble_eq_true rfl) (qmd_isDigit_ok _ (by omega) he20) ?_
    by_cases h78 : r18 = 0
    · rw [if_pos h78] at hs
      refine Rc.goL mt_1228 0 (f2 := (if r18 = 0 then 142 else 70, [.ref 280, .int r15, UU, UU], [], gm M19)) (b := true) rfl rfl ?_
      rw [if_pos h78]
      refine Rc.goL mt_1228 0 (f2 := (143, [.ref 280, .int r15, UU, UU], [.int r15], gm M19)) (b := true) rfl rfl ?_
      obtain ⟨r21, M22, he23, hs⟩ := ob_some hs
      refine Rc.callS (i := 269) (mid' := 1226) (av := [.int r15]) (rest := []) (v := some (.int r21)) (M1 := gm M22) rfl (Or.inl rfl) rfl cw_1226 rfl (Nat.le_of_ble_eq_true rfl) (qmd_isLetter_ok _ (by omega) he23) ?_
      refine jn_e (P := fun (j : Int32 → SM → Option (Int32 × SM)) => ∀ (x1_24 : Int32) (M25 : SM) (r : Int32) (Mz : SM), j x1_24 M25 = some (r, Mz) → Rc (d + 1) 1228 (167, [.ref 280, .int x1_24, UU, UU], [], gm M25) (some (.int r), gm Mz)) hs ?_ (fun j47 Hj47 hs => ?_)
      · intro x1_24 M25 r Mz hs
        try dsimp only at hs
        refine Rc.goL mt_1228 1 (f2 := (169, [.ref 280, .int x1_24, UU, UU], [.int x1_24, .ref 280], gm M25)) (b := true) rfl rfl ?_
        obtain ⟨r26, M27, he28, hs⟩ := ob_some hs
        refine Rc.callS (i := 269) (mid' := 1226) (av := [.int x1_24]) (rest := [.ref 280]) (v := some (.int r26)) (M1 := gm M27) rfl (Or.inl rfl) rfl cw_1226 rfl (Nat.le_of_ble_eq_true rfl) (qmd_isLetter_ok _ (by omega) he28) ?_
        refine jn_e (P := fun (j : Int32 → Int32 → SM → Option (Int32 × SM)) => ∀ (x1_29 : Int32) (t30 : Int32) (M31 : SM) (r : Int32) (Mz : SM), j x1_29 t30 M31 = some (r, Mz) → Rc (d + 1) 1228 (180, [.ref 280, .int x1_29, UU, UU], [.int t30, .ref 280], gm M31) (some (.int r), gm Mz)) hs ?_ (fun j45 Hj45 hs => ?_)
        · intro x1_29 t30 M31 r Mz hs
          try dsimp only at hs
          refine Rc.goL mt_1228 0 (f2 := (181, [.ref 280, .int x1_29, UU, UU], [.int x1_29, .int t30, .ref 280], gm M31)) (b := true) rfl rfl ?_
          obtain ⟨r32, M33, he34, hs⟩ := ob_some hs
          refine Rc.callS (i := 269) (mid' := 1226) (av := [.int x1_29]) (rest := [.int t30, .ref 280]) (v := some (.int r32)) (M1 := gm M33) rfl (Or.inl rfl) rfl cw_1226 rfl (Nat.le_of_ble_eq_true rfl) (qmd_isLetter_ok _ (by omega) he34) ?_
          refine jn_e (P := fun (j : Int32 → SM → Option (Int32 × SM)) => ∀ (t35 : Int32) (M36 : SM) (r : Int32) (Mz : SM), j t35 M36 = some (r, Mz) → Rc (d + 1) 1228 (198, [.ref 280, UU, UU, UU], [.int t35, .int t30, .ref 280], gm M36) (some (.int r), gm Mz)) hs ?_ (fun j40 Hj40 hs => ?_)
          · intro t35 M36 r Mz hs
            try dsimp only at hs
            obtain ⟨u39, M37, he38, hs⟩ := ob_some hs
            refine Rc.callV (i := 250) (mid' := 1217) (av := [.int t30, .int t35]) (rest := []) (v := none) (M1 := gm M37) (a := 280) rfl rfl rfl cw_1217 rfl (Nat.le_of_ble_eq_true rfl) rfl (Nat.le_of_ble_eq_true rfl) (qmd_says_ok _ (by omega) he38) ?_
            refine Rc.goL mt_1228 5 (f2 := (211, [.ref 280, UU, UU, UU], [], gm (wI M37 280 14 ((M37.1 280 14) + (1 : Int32))))) (b := true) rfl rfl ?_
            refine Rc.goL mt_1228 0 (f2 := (212, [.ref 280, UU, UU, UU], [.int (1 : Int32)], gm (wI M37 280 14 ((M37.1 280 14) + (1 : Int32))))) (b := true) rfl rfl ?_
            obtain ⟨e1, e2⟩ := some_p hs; subst e1; subst e2
            exact Rc.ret (v := some (.int (1 : Int32))) rfl rfl
          by_cases h44 : r32 = 0
          · rw [if_pos h44] at hs
            refine Rc.goL mt_1228 0 (f2 := (if r32 = 0 then 194 else 187, [.ref 280, .int x1_29, UU, UU], [.int t30, .ref 280], gm M33)) (b := true) rfl rfl ?_
            rw [if_pos h44]
            refine Rc.goL mt_1228 0 (f2 := (195, [.ref 280, .int x1_29, UU, UU], [.int x1_29, .int t30, .ref 280], gm M33)) (b := true) rfl rfl ?_
            obtain ⟨r41, M42, he43, hs⟩ := ob_some hs
            refine Rc.callS (i := 272) (mid' := 1225) (av := [.int x1_29]) (rest := [.int t30, .ref 280]) (v := some (.int r41)) (M1 := gm M42) rfl (Or.inl rfl) rfl cw_1225 rfl (Nat.le_of_ble_eq_true rfl) (qmd_factOf_ok _ (by omega) he43) ?_
            refine Rc.less (ls2 := [.ref 280, UU, UU, UU]) (by refine ⟨Or.inr rfl, Or.inl rfl, Or.inl rfl, Or.inl rfl, trivial⟩) ?_
            exact Hj40 r41 _ _ _ hs
          · rw [if_neg h44] at hs
            refine Rc.goL mt_1228 0 (f2 := (if r32 = 0 then 194 else 187, [.ref 280, .int x1_29, UU, UU], [.int t30, .ref 280], gm M33)) (b := true) rfl rfl ?_
            rw [if_neg h44]
            refine Rc.goL mt_1228 3 (f2 := (198, [.ref 280, .int x1_29, UU, UU], [.int (x1_29 - (65 : Int32)), .int t30, .ref 280], gm M33)) (b := true) rfl rfl ?_
            refine Rc.less (ls2 := [.ref 280, UU, UU, UU]) (by refine ⟨Or.inr rfl, Or.inl rfl, Or.inl rfl, Or.inl rfl, trivial⟩) ?_
            exact Hj40 (x1_29 - (65 : Int32)) _ _ _ hs
        by_cases h46 : r26 = 0
        · rw [if_pos h46] at hs
          refine Rc.goL mt_1228 0 (f2 := (if r26 = 0 then 179 else 175, [.ref 280, .int x1_24, UU, UU], [.ref 280], gm M27)) (b := true) rfl rfl ?_
          rw [if_pos h46]
          refine Rc.goL mt_1228 0 (f2 := (180, [.ref 280, .int x1_24, UU, UU], [.int (2 : Int32), .ref 280], gm M27)) (b := true) rfl rfl ?_
          refine Rc.less (ls2 := [.ref 280, .int x1_24, UU, UU]) (by refine ⟨Or.inr rfl, Or.inr rfl, Or.inl rfl, Or.inl rfl, trivial⟩) ?_
          exact Hj45 x1_24 (2 : Int32) _ _ _ hs
        · rw [if_neg h46] at hs
          refine Rc.goL mt_1228 0 (f2 := (if r26 = 0 then 179 else 175, [.ref 280, .int x1_24, UU, UU], [.ref 280], gm M27)) (b := true) rfl rfl ?_
          rw [if_neg h46]
          refine Rc.goL mt_1228 1 (f2 := (180, [.ref 280, .int x1_24, UU, UU], [.int (1 : Int32), .ref 280], gm M27)) (b := true) rfl rfl ?_
          refine Rc.less (ls2 := [.ref 280, .int x1_24, UU, UU]) (by refine ⟨Or.inr rfl, Or.inr rfl, Or.inl rfl, Or.inl rfl, trivial⟩) ?_
          exact Hj45 x1_24 (1 : Int32) _ _ _ hs
      by_cases h56 : r21 = 0
      · rw [if_pos h56] at hs
        refine Rc.goL mt_1228 0 (f2 := (if r21 = 0 then 149 else 167, [.ref 280, .int r15, UU, UU], [], gm M22)) (b := true) rfl rfl ?_
        rw [if_pos h56]
        refine Rc.goL mt_1228 0 (f2 := (150, [.ref 280, .int r15, UU, UU], [.int r15], gm M22)) (b := true) rfl rfl ?_
        obtain ⟨r48, M49, he50, hs⟩ := ob_some hs
        refine Rc.callS (i := 272) (mid' := 1225) (av := [.int r15]) (rest := []) (v := some (.int r48)) (M1 := gm M49) rfl (Or.inl rfl) rfl cw_1225 rfl (Nat.le_of_ble_eq_true rfl) (qmd_factOf_ok _ (by omega) he50) ?_
        by_cases h55 : r48 = (-1 : Int32)
        · rw [if_pos h55] at hs
          refine Rc.goL mt_1228 1 (f2 := (if r48 = (-1 : Int32) then 157 else 167, [.ref 280, .int r15, UU, UU], [], gm M49)) (b := true) rfl rfl ?_
          rw [if_pos h55]
          refine Rc.goL mt_1228 3 (f2 := (163, [.ref 280, .int r15, UU, UU], [.int (M49.1 280 14), .int (1 : Int32), .ref 280], gm M49)) (b := true) rfl rfl ?_
          obtain ⟨r51, M52, he53, hs⟩ := ob_some hs
          refine Rc.callV (i := 259) (mid' := 1216) (av := [.int (1 : Int32), .int (M49.1 280 14)]) (rest := []) (v := some (.int r51)) (M1 := gm M52) (a := 280) rfl rfl rfl cw_1216 rfl (Nat.le_of_ble_eq_true rfl) rfl (Nat.le_of_ble_eq_true rfl) (qmd_wrong_ok _ (by omega) he53) ?_
          obtain ⟨hc54, hs⟩ := ck_some hs
          obtain ⟨e1, e2⟩ := some_p hs; subst e1; subst e2
          exact Rc.ret (v := some (.int r51)) rfl hc54
        · rw [if_neg h55] at hs
          refine Rc.goL mt_1228 1 (f2 := (if r48 = (-1 : Int32) then 157 else 167, [.ref 280, .int r15, UU, UU], [], gm M49)) (b := true) rfl rfl ?_
          rw [if_neg h55]
          refine Rc.less (ls2 := [.ref 280, .int r15, UU, UU]) (by refine ⟨Or.inr rfl, Or.inr rfl, Or.inl rfl, Or.inl rfl, trivial⟩) ?_
          exact Hj47 r15 _ _ _ hs
      · rw [if_neg h56] at hs
        refine Rc.goL mt_1228 0 (f2 := (if r21 = 0 then 149 else 167, [.ref 280, .int r15, UU, UU], [], gm M22)) (b := true) rfl rfl ?_
        rw [if_neg h56]
        refine Rc.less (ls2 := [.ref 280, .int r15, UU, UU]) (by refine ⟨Or.inr rfl, Or.inr rfl, Or.inl rfl, Or.inl rfl, trivial⟩) ?_
        exact Hj47 r15 _ _ _ hs
    · rw [if_neg h78] at hs
      refine Rc.goL mt_1228 0 (f2 := (if r18 = 0 then 142 else 70, [.ref 280, .int r15, UU, UU], [], gm M19)) (b := true) rfl rfl ?_
      rw [if_neg h78]
      refine Rc.goL mt_1228 4 (f2 := (77, [.ref 280, .int r15, .int (M19.1 280 14), .int (0 : Int32)], [], gm M19)) (b := true) rfl rfl ?_
      refine Rc.less (ls2 := [.ref 280, UU, .int (M19.1 280 14), .int (0 : Int32)]) (by refine ⟨Or.inr rfl, Or.inl rfl, Or.inr rfl, Or.inr rfl, trivial⟩) ?_
      refine qmd_readsFactor_L77_ok d hd _ _ (fun M68 r Mz hs => ?_) (fun y3_73 M74 r Mz hs => ?_) _ (M19.1 280 14) (0 : Int32) _ _ _ hs
      · refine Rc.goL mt_1228 3 (f2 := (104, [.ref 280, UU, UU, UU], [.int (M68.1 280 14), .int (2 : Int32), .ref 280], gm M68)) (b := true) rfl rfl ?_
        obtain ⟨r69, M70, he71, hs⟩ := ob_some hs
        refine Rc.callV (i := 259) (mid' := 1216) (av := [.int (2 : Int32), .int (M68.1 280 14)]) (rest := []) (v := some (.int r69)) (M1 := gm M70) (a := 280) rfl rfl rfl cw_1216 rfl (Nat.le_of_ble_eq_true rfl) rfl (Nat.le_of_ble_eq_true rfl) (qmd_wrong_ok _ (by omega) he71) ?_
        obtain ⟨hc72, hs⟩ := ck_some hs
        obtain ⟨e1, e2⟩ := some_p hs; subst e1; subst e2
        exact Rc.ret (v := some (.int r69)) rfl hc72
      · refine Rc.goL mt_1228 2 (f2 := (137, [.ref 280, UU, UU, .int y3_73], [.int y3_73, .int (0 : Int32), .ref 280], gm M74)) (b := true) rfl rfl ?_
        obtain ⟨u77, M75, he76, hs⟩ := ob_some hs
        refine Rc.callV (i := 250) (mid' := 1217) (av := [.int (0 : Int32), .int y3_73]) (rest := []) (v := none) (M1 := gm M75) (a := 280) rfl rfl rfl cw_1217 rfl (Nat.le_of_ble_eq_true rfl) rfl (Nat.le_of_ble_eq_true rfl) (qmd_says_ok _ (by omega) he76) ?_
        refine Rc.goL mt_1228 0 (f2 := (141, [.ref 280, UU, UU, .int y3_73], [.int (1 : Int32)], gm M75)) (b := true) rfl rfl ?_
        obtain ⟨e1, e2⟩ := some_p hs; subst e1; subst e2
        exact Rc.ret (v := some (.int (1 : Int32))) rfl rfl
def qmd_lands_L0 : Nat → SM → Option (Unit × SM)
  | 0, _ => none
  | n + 1, M =>
    ob (qmd_top M) (fun r1 M2 =>
    if r1 = (17 : Int32) then
    (ck (ib 220 ((M2.1 280 19) - (1 : Int32)) && true) (
      lt ((M2.1 291 (Int32.toNatClampNeg ((M2.1 280 19) - (1 : Int32)))) - (M2.1 291 (Int32.toNatClampNeg ((M2.1 280 19) - (1 : Int32)))) / (1048576 : Int32) * (1048576 : Int32)) (fun (z5 : Int32) =>
      ck (ib 220 z5 && true) (
      qmd_lands_L0 n (wI (wI (wI M2 290 (Int32.toNatClampNeg z5) ((14680064 : Int32) + (M2.1 280 18))) 280 19 ((M2.1 280 19) - (1 : Int32))) 280 17 ((M2.1 280 17) - (1 : Int32))))))) else
    (some ((), M2)))
def qmd_lands (M : SM) : Option (Unit × SM) :=
  qmd_lands_L0 FU M
theorem mt_1229 : MT 1229 K_1229 LN_12 := ⟨rfl, rfl, by decide +kernel⟩
theorem okm_1229 : OKm 1229 := ⟨⟨vE_1229, okL_12, by decide +kernel⟩, by decide +kernel, by decide +kernel, by decide +kernel⟩
set_option maxRecDepth 20000 in
theorem qmd_lands_L0_ok (d : Nat) (hd : 2 ≤ d + 1) : ∀ (n : Nat) (M : SM) (r : Unit) (Mz : SM), qmd_lands_L0 n M = some (r, Mz) → Rc (d + 1) 1229 (0, [.ref 280, UU], [], gm M) (none, gm Mz) := by
  intro n
  induction n with
  | zero => intro  M r Mz hs; cases hs
  | succ n ih =>
    intro  M r Mz hs
    rw [qmd_lands_L0] at hs
    refine Rc.goL mt_1229 0 (f2 := (1, [.ref 280, UU], [.ref 280], gm M)) (b := true) rfl rfl ?_
    obtain ⟨r1, M2, he3, hs⟩ := ob_some hs
    refine Rc.callV (i := 239) (mid' := 1219) (av := []) (rest := []) (v := some (.int r1)) (M1 := gm M2) (a := 280) rfl rfl rfl cw_1219 rfl (Nat.le_of_ble_eq_true rfl) rfl (Nat.le_of_ble_eq_true rfl) (qmd_top_ok _ (by omega) he3) ?_
    by_cases h7 : r1 = (17 : Int32)
    · rw [if_pos h7] at hs
      refine Rc.goL mt_1229 1 (f2 := (if r1 = (17 : Int32) then 9 else 61, [.ref 280, UU], [], gm M2)) (b := true) rfl rfl ?_
      rw [if_pos h7]
      obtain ⟨hb4, hs⟩ := ck_some hs
      obtain ⟨hb4_0, hb4⟩ := and_t hb4
      refine Rc.goL mt_1229 6 (f2 := (20, [.ref 280, UU], [.int (M2.1 291 (Int32.toNatClampNeg ((M2.1 280 19) - (1 : Int32))))], gm M2)) (b := (ib 220 ((M2.1 280 19) - (1 : Int32)) && true)) rfl (and_i hb4_0 rfl) ?_
      refine lt_g hs (fun z5 Hz5 hs => ?_)
      refine Rc.goL mt_1229 2 (f2 := (24, [.ref 280, .int z5], [], gm M2)) (b := true) (by subst Hz5; rfl) rfl ?_
      obtain ⟨hb6, hs⟩ := ck_some hs
      obtain ⟨hb6_0, hb6⟩ := and_t hb6
      refine Rc.goL mt_1229 6 (f2 := (37, [.ref 280, .int z5], [.int ((14680064 : Int32) + (M2.1 280 18)), .int z5, .ref 290], gm M2)) (b := true) rfl rfl ?_
      refine Rc.goL mt_1229 0 (f2 := (38, [.ref 280, .int z5], [], gm (wI M2 290 (Int32.toNatClampNeg z5) ((14680064 : Int32) + (M2.1 280 18))))) (b := (ib 220 z5 && true)) rfl (and_i hb6_0 rfl) ?_
      refine Rc.goL mt_1229 5 (f2 := (48, [.ref 280, .int z5], [], gm (wI (wI M2 290 (Int32.toNatClampNeg z5) ((14680064 : Int32) + (M2.1 280 18))) 280 19 ((M2.1 280 19) - (1 : Int32))))) (b := true) rfl rfl ?_
      refine Rc.goL mt_1229 5 (f2 := (58, [.ref 280, .int z5], [], gm (wI (wI (wI M2 290 (Int32.toNatClampNeg z5) ((14680064 : Int32) + (M2.1 280 18))) 280 19 ((M2.1 280 19) - (1 : Int32))) 280 17 ((M2.1 280 17) - (1 : Int32))))) (b := true) rfl rfl ?_
      refine Rc.goL mt_1229 0 (f2 := (0, [.ref 280, .int z5], [], gm (wI (wI (wI M2 290 (Int32.toNatClampNeg z5) ((14680064 : Int32) + (M2.1 280 18))) 280 19 ((M2.1 280 19) - (1 : Int32))) 280 17 ((M2.1 280 17) - (1 : Int32))))) (b := true) rfl rfl ?_
      refine Rc.less (ls2 := [.ref 280, UU]) (by refine ⟨Or.inr rfl, Or.inl rfl, trivial⟩) ?_
      exact ih _ _ _ hs
    · rw [if_neg h7] at hs
      refine Rc.goL mt_1229 1 (f2 := (if r1 = (17 : Int32) then 9 else 61, [.ref 280, UU], [], gm M2)) (b := true) rfl rfl ?_
      rw [if_neg h7]
      obtain ⟨e1, e2⟩ := some_p hs; subst e1; subst e2
      exact Rc.ret (v := none) rfl rfl
set_option maxRecDepth 20000 in
theorem qmd_lands_ok (d : Nat) (hd : 2 ≤ d) {M : SM} {r : Unit} {Mz : SM} (hs : qmd_lands M = some (r, Mz)) : Ex d 1229 [.ref 280] (gm M) (none, gm Mz) := by
  obtain ⟨d, rfl⟩ : ∃ d0, d = d0 + 1 := ⟨d - 1, by omega⟩
  refine Ex.of okm_1229 (by omega) (Nat.le_of_ble_eq_true rfl) ?_
  show Rc (d + 1) 1229 (0, [.ref 280, UU], [], gm M) _
  unfold qmd_lands at hs
  refine Rc.less (ls2 := [.ref 280, UU]) (by refine ⟨Or.inr rfl, Or.inl rfl, trivial⟩) ?_
  exact qmd_lands_L0_ok d hd _ _ _ _ hs
def qmd_asks (M : SM) : Option (Int32 × SM) :=
  ob (qmd_closes (1 : Int32) M) (fun _ M1 =>
  ob (qmd_top M1) (fun r4 M5 =>
  ob (qmd_isCompared r4 M5) (fun r7 M8 =>
  if r7 = 0 then
  (ob (qmd_wrong (1 : Int32) (M8.1 280 14) M8) (fun r10 M11 =>
    ck (decide (r10 = 0) || decide (r10 = 1)) (some (r10, M11)))) else
  (if (M8.1 280 17) = (6 : Int32) then
    (ob (qmd_wrong (5 : Int32) (M8.1 280 14) M8) (fun r14 M15 =>
      ck (decide (r14 = 0) || decide (r14 = 1)) (some (r14, M15)))) else
    (ob (qmd_top M8) (fun r18 M19 =>
      ob (qmd_says r18 (0 : Int32) M19) (fun _ M21 =>
      ob (qmd_holds (16 : Int32) (M21.1 280 18) (wI (wI M21 280 19 ((M21.1 280 19) - (1 : Int32))) 280 17 ((M21.1 280 17) + (1 : Int32)))) (fun _ M24 =>
      ob (qmd_says (13 : Int32) (0 : Int32) M24) (fun _ M27 =>
      some ((1 : Int32), (wI M27 280 14 ((M27.1 280 14) + (1 : Int32)))))))))))))
theorem mt_1230 : MT 1230 K_1230 LN_12 := ⟨rfl, rfl, by decide +kernel⟩
theorem okm_1230 : OKm 1230 := ⟨⟨vE_1230, okL_12, by decide +kernel⟩, by decide +kernel, by decide +kernel, by decide +kernel⟩
set_option maxRecDepth 20000 in
theorem qmd_asks_ok (d : Nat) (hd : 3 ≤ d) {M : SM} {r : Int32} {Mz : SM} (hs : qmd_asks M = some (r, Mz)) : Ex d 1230 [.ref 280] (gm M) (some (.int r), gm Mz) := by
  obtain ⟨d, rfl⟩ : ∃ d0, d = d0 + 1 := ⟨d - 1, by omega⟩
  refine Ex.of okm_1230 (by omega) (Nat.le_of_ble_eq_true rfl) ?_
  show Rc (d + 1) 1230 (0, [.ref 280], [], gm M) _
  unfold qmd_asks at hs
  refine Rc.goL mt_1230 1 (f2 := (2, [.ref 280], [.int (1 : Int32), .ref 280], gm M)) (b := true) rfl rfl ?_
  obtain ⟨u3, M1, he2, hs⟩ := ob_some hs
  refine Rc.callV (i := 276) (mid' := 1224) (av := [.int (1 : Int32)]) (rest := []) (v := none) (M1 := gm M1) (a := 280) rfl rfl rfl cw_1224 rfl (Nat.le_of_ble_eq_true rfl) rfl (Nat.le_of_ble_eq_true rfl) (qmd_closes_ok _ (by omega) he2) ?_
  refine Rc.goL mt_1230 0 (f2 := (6, [.ref 280], [.ref 280], gm M1)) (b := true) rfl rfl ?_
  obtain ⟨r4, M5, he6, hs⟩ := ob_some hs
  refine Rc.callV (i := 239) (mid' := 1219) (av := []) (rest := []) (v := some (.int r4)) (M1 := gm M5) (a := 280) rfl rfl rfl cw_1219 rfl (Nat.le_of_ble_eq_true rfl) rfl (Nat.le_of_ble_eq_true rfl) (qmd_top_ok _ (by omega) he6) ?_
  obtain ⟨r7, M8, he9, hs⟩ := ob_some hs
  refine Rc.callS (i := 279) (mid' := 1223) (av := [.int r4]) (rest := []) (v := some (.int r7)) (M1 := gm M8) rfl (Or.inl rfl) rfl cw_1223 rfl (Nat.le_of_ble_eq_true rfl) (qmd_isCompared_ok _ (by omega) he9) ?_
  by_cases h31 : r7 = 0
  · rw [if_pos h31] at hs
    refine Rc.goL mt_1230 0 (f2 := (if r7 = 0 then 15 else 25, [.ref 280], [], gm M8)) (b := true) rfl rfl ?_
    rw [if_pos h31]
    refine Rc.goL mt_1230 3 (f2 := (21, [.ref 280], [.int (M8.1 280 14), .int (1 : Int32), .ref 280], gm M8)) (b := true) rfl rfl ?_
    obtain ⟨r10, M11, he12, hs⟩ := ob_some hs
    refine Rc.callV (i := 259) (mid' := 1216) (av := [.int (1 : Int32), .int (M8.1 280 14)]) (rest := []) (v := some (.int r10)) (M1 := gm M11) (a := 280) rfl rfl rfl cw_1216 rfl (Nat.le_of_ble_eq_true rfl) rfl (Nat.le_of_ble_eq_true rfl) (qmd_wrong_ok _ (by omega) he12) ?_
    obtain ⟨hc13, hs⟩ := ck_some hs
    obtain ⟨e1, e2⟩ := some_p hs; subst e1; subst e2
    exact Rc.ret (v := some (.int r10)) rfl hc13
  · rw [if_neg h31] at hs
    refine Rc.goL mt_1230 0 (f2 := (if r7 = 0 then 15 else 25, [.ref 280], [], gm M8)) (b := true) rfl rfl ?_
    rw [if_neg h31]
    by_cases h30 : (M8.1 280 17) = (6 : Int32)
    · rw [if_pos h30] at hs
      refine Rc.goL mt_1230 3 (f2 := (if (M8.1 280 17) = (6 : Int32) then 34 else 44, [.ref 280], [], gm M8)) (b := true) rfl rfl ?_
      rw [if_pos h30]
      refine Rc.goL mt_1230 3 (f2 := (40, [.ref 280], [.int (M8.1 280 14), .int (5 : Int32), .ref 280], gm M8)) (b := true) rfl rfl ?_
      obtain ⟨r14, M15, he16, hs⟩ := ob_some hs
      refine Rc.callV (i := 259) (mid' := 1216) (av := [.int (5 : Int32), .int (M8.1 280 14)]) (rest := []) (v := some (.int r14)) (M1 := gm M15) (a := 280) rfl rfl rfl cw_1216 rfl (Nat.le_of_ble_eq_true rfl) rfl (Nat.le_of_ble_eq_true rfl) (qmd_wrong_ok _ (by omega) he16) ?_
      obtain ⟨hc17, hs⟩ := ck_some hs
      obtain ⟨e1, e2⟩ := some_p hs; subst e1; subst e2
      exact Rc.ret (v := some (.int r14)) rfl hc17
    · rw [if_neg h30] at hs
      refine Rc.goL mt_1230 3 (f2 := (if (M8.1 280 17) = (6 : Int32) then 34 else 44, [.ref 280], [], gm M8)) (b := true) rfl rfl ?_
      rw [if_neg h30]
      refine Rc.goL mt_1230 1 (f2 := (46, [.ref 280], [.ref 280, .ref 280], gm M8)) (b := true) rfl rfl ?_
      obtain ⟨r18, M19, he20, hs⟩ := ob_some hs
      refine Rc.callV (i := 239) (mid' := 1219) (av := []) (rest := [.ref 280]) (v := some (.int r18)) (M1 := gm M19) (a := 280) rfl rfl rfl cw_1219 rfl (Nat.le_of_ble_eq_true rfl) rfl (Nat.le_of_ble_eq_true rfl) (qmd_top_ok _ (by omega) he20) ?_
      refine Rc.goL mt_1230 0 (f2 := (50, [.ref 280], [.int (0 : Int32), .int r18, .ref 280], gm M19)) (b := true) rfl rfl ?_
      obtain ⟨u23, M21, he22, hs⟩ := ob_some hs
      refine Rc.callV (i := 250) (mid' := 1217) (av := [.int r18, .int (0 : Int32)]) (rest := []) (v := none) (M1 := gm M21) (a := 280) rfl rfl rfl cw_1217 rfl (Nat.le_of_ble_eq_true rfl) rfl (Nat.le_of_ble_eq_true rfl) (qmd_says_ok _ (by omega) he22) ?_
      refine Rc.goL mt_1230 5 (f2 := (63, [.ref 280], [], gm (wI M21 280 19 ((M21.1 280 19) - (1 : Int32))))) (b := true) rfl rfl ?_
      refine Rc.goL mt_1230 5 (f2 := (73, [.ref 280], [], gm (wI (wI M21 280 19 ((M21.1 280 19) - (1 : Int32))) 280 17 ((M21.1 280 17) + (1 : Int32))))) (b := true) rfl rfl ?_
      refine Rc.goL mt_1230 3 (f2 := (80, [.ref 280], [.int (M21.1 280 18), .int (16 : Int32), .ref 280], gm (wI (wI M21 280 19 ((M21.1 280 19) - (1 : Int32))) 280 17 ((M21.1 280 17) + (1 : Int32))))) (b := true) rfl rfl ?_
      obtain ⟨u26, M24, he25, hs⟩ := ob_some hs
      refine Rc.callV (i := 263) (mid' := 1218) (av := [.int (16 : Int32), .int (M21.1 280 18)]) (rest := []) (v := none) (M1 := gm M24) (a := 280) rfl rfl rfl cw_1218 rfl (Nat.le_of_ble_eq_true rfl) rfl (Nat.le_of_ble_eq_true rfl) (qmd_holds_ok _ (by omega) he25) ?_
      refine Rc.goL mt_1230 2 (f2 := (87, [.ref 280], [.int (0 : Int32), .int (13 : Int32), .ref 280], gm M24)) (b := true) rfl rfl ?_
      obtain ⟨u29, M27, he28, hs⟩ := ob_some hs
      refine Rc.callV (i := 250) (mid' := 1217) (av := [.int (13 : Int32), .int (0 : Int32)]) (rest := []) (v := none) (M1 := gm M27) (a := 280) rfl rfl rfl cw_1217 rfl (Nat.le_of_ble_eq_true rfl) rfl (Nat.le_of_ble_eq_true rfl) (qmd_says_ok _ (by omega) he28) ?_
      refine Rc.goL mt_1230 5 (f2 := (100, [.ref 280], [], gm (wI M27 280 14 ((M27.1 280 14) + (1 : Int32))))) (b := true) rfl rfl ?_
      refine Rc.goL mt_1230 0 (f2 := (101, [.ref 280], [.int (1 : Int32)], gm (wI M27 280 14 ((M27.1 280 14) + (1 : Int32))))) (b := true) rfl rfl ?_
      obtain ⟨e1, e2⟩ := some_p hs; subst e1; subst e2
      exact Rc.ret (v := some (.int (1 : Int32))) rfl rfl
def qmd_turns (M : SM) : Option (Int32 × SM) :=
  ob (qmd_closes (1 : Int32) M) (fun _ M1 =>
  ob (qmd_top M1) (fun r4 M5 =>
  ob (qmd_isCompared r4 M5) (fun r7 M8 =>
  if r7 = 0 then
  (ob (qmd_lands M8) (fun _ M10 =>
    ob (qmd_top M10) (fun r13 M14 =>
    if r13 = (16 : Int32) then
    (ck (ib 220 ((M14.1 280 19) - (1 : Int32)) && true) (
      lt ((M14.1 291 (Int32.toNatClampNeg ((M14.1 280 19) - (1 : Int32)))) - (M14.1 291 (Int32.toNatClampNeg ((M14.1 280 19) - (1 : Int32)))) / (1048576 : Int32) * (1048576 : Int32)) (fun (z17 : Int32) =>
      ob (qmd_holds (17 : Int32) (M14.1 280 18) (wI M14 280 19 ((M14.1 280 19) - (1 : Int32)))) (fun _ M18 =>
      ob (qmd_says (14 : Int32) (0 : Int32) M18) (fun _ M21 =>
      ck (ib 220 z17 && true) (
      some ((1 : Int32), (wI (wI M21 290 (Int32.toNatClampNeg z17) ((13631488 : Int32) + (M21.1 280 18))) 280 14 ((M21.1 280 14) + (1 : Int32)))))))))) else
    (ob (qmd_wrong (1 : Int32) (M14.1 280 14) M14) (fun r25 M26 =>
      ck (decide (r25 = 0) || decide (r25 = 1)) (some (r25, M26))))))) else
  (ob (qmd_wrong (1 : Int32) (M8.1 280 14) M8) (fun r30 M31 =>
    ck (decide (r30 = 0) || decide (r30 = 1)) (some (r30, M31)))))))
theorem mt_1231 : MT 1231 K_1231 LN_12 := ⟨rfl, rfl, by decide +kernel⟩
theorem okm_1231 : OKm 1231 := ⟨⟨vE_1231, okL_12, by decide +kernel⟩, by decide +kernel, by decide +kernel, by decide +kernel⟩
set_option maxRecDepth 20000 in
theorem qmd_turns_ok (d : Nat) (hd : 3 ≤ d) {M : SM} {r : Int32} {Mz : SM} (hs : qmd_turns M = some (r, Mz)) : Ex d 1231 [.ref 280] (gm M) (some (.int r), gm Mz) := by
  obtain ⟨d, rfl⟩ : ∃ d0, d = d0 + 1 := ⟨d - 1, by omega⟩
  refine Ex.of okm_1231 (by omega) (Nat.le_of_ble_eq_true rfl) ?_
  show Rc (d + 1) 1231 (0, [.ref 280, UU], [], gm M) _
  unfold qmd_turns at hs
  refine Rc.goL mt_1231 1 (f2 := (2, [.ref 280, UU], [.int (1 : Int32), .ref 280], gm M)) (b := true) rfl rfl ?_
  obtain ⟨u3, M1, he2, hs⟩ := ob_some hs
  refine Rc.callV (i := 276) (mid' := 1224) (av := [.int (1 : Int32)]) (rest := []) (v := none) (M1 := gm M1) (a := 280) rfl rfl rfl cw_1224 rfl (Nat.le_of_ble_eq_true rfl) rfl (Nat.le_of_ble_eq_true rfl) (qmd_closes_ok _ (by omega) he2) ?_
  refine Rc.goL mt_1231 0 (f2 := (6, [.ref 280, UU], [.ref 280], gm M1)) (b := true) rfl rfl ?_
  obtain ⟨r4, M5, he6, hs⟩ := ob_some hs
  refine Rc.callV (i := 239) (mid' := 1219) (av := []) (rest := []) (v := some (.int r4)) (M1 := gm M5) (a := 280) rfl rfl rfl cw_1219 rfl (Nat.le_of_ble_eq_true rfl) rfl (Nat.le_of_ble_eq_true rfl) (qmd_top_ok _ (by omega) he6) ?_
  obtain ⟨r7, M8, he9, hs⟩ := ob_some hs
  refine Rc.callS (i := 279) (mid' := 1223) (av := [.int r4]) (rest := []) (v := some (.int r7)) (M1 := gm M8) rfl (Or.inl rfl) rfl cw_1223 rfl (Nat.le_of_ble_eq_true rfl) (qmd_isCompared_ok _ (by omega) he9) ?_
  by_cases h34 : r7 = 0
  · rw [if_pos h34] at hs
    refine Rc.goL mt_1231 0 (f2 := (if r7 = 0 then 25 else 15, [.ref 280, UU], [], gm M8)) (b := true) rfl rfl ?_
    rw [if_pos h34]
    refine Rc.goL mt_1231 0 (f2 := (26, [.ref 280, UU], [.ref 280], gm M8)) (b := true) rfl rfl ?_
    obtain ⟨u12, M10, he11, hs⟩ := ob_some hs
    refine Rc.callV (i := 282) (mid' := 1229) (av := []) (rest := []) (v := none) (M1 := gm M10) (a := 280) rfl rfl rfl cw_1229 rfl (Nat.le_of_ble_eq_true rfl) rfl (Nat.le_of_ble_eq_true rfl) (qmd_lands_ok _ (by omega) he11) ?_
    refine Rc.goL mt_1231 0 (f2 := (30, [.ref 280, UU], [.ref 280], gm M10)) (b := true) rfl rfl ?_
    obtain ⟨r13, M14, he15, hs⟩ := ob_some hs
    refine Rc.callV (i := 239) (mid' := 1219) (av := []) (rest := []) (v := some (.int r13)) (M1 := gm M14) (a := 280) rfl rfl rfl cw_1219 rfl (Nat.le_of_ble_eq_true rfl) rfl (Nat.le_of_ble_eq_true rfl) (qmd_top_ok _ (by omega) he15) ?_
    by_cases h29 : r13 = (16 : Int32)
    · rw [if_pos h29] at hs
      refine Rc.goL mt_1231 1 (f2 := (if r13 = (16 : Int32) then 48 else 38, [.ref 280, UU], [], gm M14)) (b := true) rfl rfl ?_
      rw [if_pos h29]
      obtain ⟨hb16, hs⟩ := ck_some hs
      obtain ⟨hb16_0, hb16⟩ := and_t hb16
      refine Rc.goL mt_1231 6 (f2 := (59, [.ref 280, UU], [.int (M14.1 291 (Int32.toNatClampNeg ((M14.1 280 19) - (1 : Int32))))], gm M14)) (b := (ib 220 ((M14.1 280 19) - (1 : Int32)) && true)) rfl (and_i hb16_0 rfl) ?_
      refine lt_g hs (fun z17 Hz17 hs => ?_)
      refine Rc.goL mt_1231 2 (f2 := (63, [.ref 280, .int z17], [], gm M14)) (b := true) (by subst Hz17; rfl) rfl ?_
      refine Rc.goL mt_1231 5 (f2 := (73, [.ref 280, .int z17], [], gm (wI M14 280 19 ((M14.1 280 19) - (1 : Int32))))) (b := true) rfl rfl ?_
      refine Rc.goL mt_1231 3 (f2 := (80, [.ref 280, .int z17], [.int (M14.1 280 18), .int (17 : Int32), .ref 280], gm (wI M14 280 19 ((M14.1 280 19) - (1 : Int32))))) (b := true) rfl rfl ?_
      obtain ⟨u20, M18, he19, hs⟩ := ob_some hs
      refine Rc.callV (i := 263) (mid' := 1218) (av := [.int (17 : Int32), .int (M14.1 280 18)]) (rest := []) (v := none) (M1 := gm M18) (a := 280) rfl rfl rfl cw_1218 rfl (Nat.le_of_ble_eq_true rfl) rfl (Nat.le_of_ble_eq_true rfl) (qmd_holds_ok _ (by omega) he19) ?_
      refine Rc.goL mt_1231 2 (f2 := (87, [.ref 280, .int z17], [.int (0 : Int32), .int (14 : Int32), .ref 280], gm M18)) (b := true) rfl rfl ?_
      obtain ⟨u23, M21, he22, hs⟩ := ob_some hs
      refine Rc.callV (i := 250) (mid' := 1217) (av := [.int (14 : Int32), .int (0 : Int32)]) (rest := []) (v := none) (M1 := gm M21) (a := 280) rfl rfl rfl cw_1217 rfl (Nat.le_of_ble_eq_true rfl) rfl (Nat.le_of_ble_eq_true rfl) (qmd_says_ok _ (by omega) he22) ?_
      obtain ⟨hb24, hs⟩ := ck_some hs
      obtain ⟨hb24_0, hb24⟩ := and_t hb24
      refine Rc.goL mt_1231 6 (f2 := (103, [.ref 280, .int z17], [.int ((13631488 : Int32) + (M21.1 280 18)), .int z17, .ref 290], gm M21)) (b := true) rfl rfl ?_
      refine Rc.goL mt_1231 0 (f2 := (104, [.ref 280, .int z17], [], gm (wI M21 290 (Int32.toNatClampNeg z17) ((13631488 : Int32) + (M21.1 280 18))))) (b := (ib 220 z17 && true)) rfl (and_i hb24_0 rfl) ?_
      refine Rc.goL mt_1231 5 (f2 := (114, [.ref 280, .int z17], [], gm (wI (wI M21 290 (Int32.toNatClampNeg z17) ((13631488 : Int32) + (M21.1 280 18))) 280 14 ((M21.1 280 14) + (1 : Int32))))) (b := true) rfl rfl ?_
      refine Rc.goL mt_1231 0 (f2 := (115, [.ref 280, .int z17], [.int (1 : Int32)], gm (wI (wI M21 290 (Int32.toNatClampNeg z17) ((13631488 : Int32) + (M21.1 280 18))) 280 14 ((M21.1 280 14) + (1 : Int32))))) (b := true) rfl rfl ?_
      obtain ⟨e1, e2⟩ := some_p hs; subst e1; subst e2
      exact Rc.ret (v := some (.int (1 : Int32))) rfl rfl
    · rw [if_neg h29] at hs
      refine Rc.goL mt_1231 1 (f2 := (if r13 = (16 : Int32) then 48 else 38, [.ref 280, UU], [], gm M14)) (b := true) rfl rfl ?_
      rw [if_neg h29]
      refine Rc.goL mt_1231 3 (f2 := (44, [.ref 280, UU], [.int (M14.1 280 14), .int (1 : Int32), .ref 280], gm M14)) (b := true) rfl rfl ?_
      obtain ⟨r25, M26, he27, hs⟩ := ob_some hs
      refine Rc.callV (i := 259) (mid' := 1216) (av := [.int (1 : Int32), .int (M14.1 280 14)]) (rest := []) (v := some (.int r25)) (M1 := gm M26) (a := 280) rfl rfl rfl cw_1216 rfl (Nat.le_of_ble_eq_true rfl) rfl (Nat.le_of_ble_eq_true rfl) (qmd_wrong_ok _ (by omega) he27) ?_
      obtain ⟨hc28, hs⟩ := ck_some hs
      obtain ⟨e1, e2⟩ := some_p hs; subst e1; subst e2
      exact Rc.ret (v := some (.int r25)) rfl hc28
  · rw [if_neg h34] at hs
    refine Rc.goL mt_1231 0 (f2 := (if r7 = 0 then 25 else 15, [.ref 280, UU], [], gm M8)) (b := true) rfl rfl ?_
    rw [if_neg h34]
    refine Rc.goL mt_1231 3 (f2 := (21, [.ref 280, UU], [.int (M8.1 280 14), .int (1 : Int32), .ref 280], gm M8)) (b := true) rfl rfl ?_
    obtain ⟨r30, M31, he32, hs⟩ := ob_some hs
    refine Rc.callV (i := 259) (mid' := 1216) (av := [.int (1 : Int32), .int (M8.1 280 14)]) (rest := []) (v := some (.int r30)) (M1 := gm M31) (a := 280) rfl rfl rfl cw_1216 rfl (Nat.le_of_ble_eq_true rfl) rfl (Nat.le_of_ble_eq_true rfl) (qmd_wrong_ok _ (by omega) he32) ?_
    obtain ⟨hc33, hs⟩ := ck_some hs
    obtain ⟨e1, e2⟩ := some_p hs; subst e1; subst e2
    exact Rc.ret (v := some (.int r30)) rfl hc33
