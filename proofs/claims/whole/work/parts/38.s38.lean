def qmd_strikers_L4 : Nat → Int32 → Int32 → SM → Option (Int32 × SM)
  | 0, _, _, _ => none
  | n + 1, x1, x2, M =>
    if x2 < (M.1 280 2) then
    (ck (ib 12 x2 && true) (
      if (M.1 335 (Int32.toNatClampNeg x2)) = 0 then
      (qmd_strikers_L4 n (x1 + (0 : Int32)) (x2 + (1 : Int32)) M) else
      (qmd_strikers_L4 n (x1 + (1 : Int32)) (x2 + (1 : Int32)) M))) else
    (some (x1, M))
def qmd_strikers (M : SM) : Option (Int32 × SM) :=
  qmd_strikers_L4 FU (0 : Int32) (0 : Int32) M
theorem mt_1287 : MT 1287 K_1287 LN_12 := ⟨rfl, rfl, by decide +kernel⟩
theorem okm_1287 : OKm 1287 := ⟨⟨vE_1287, okL_12, by decide +kernel⟩, by decide +kernel, by decide +kernel, by decide +kernel⟩
set_option maxRecDepth 20000 in
theorem qmd_strikers_L4_ok (d : Nat) (hd : 1 ≤ d + 1) : ∀ (n : Nat) (x1 : Int32) (x2 : Int32) (M : SM) (r : Int32) (Mz : SM), qmd_strikers_L4 n x1 x2 M = some (r, Mz) → Rc (d + 1) 1287 (4, [.ref 280, .int x1, .int x2], [], gm M) (some (.int r), gm Mz) := by
  intro n
  induction n with
  | zero => intro x1 x2 M r Mz hs; cases hs
  | succ n ih =>
    intro x1 x2 M r Mz hs
    rw [qmd_strikers_L4] at hs
    by_cases h3 : x2 < (M.1 280 2)
    · rw [if_pos h3] at hs
      refine Rc.goL mt_1287 3 (f2 := (if x2 < (M.1 280 2) then 12 else 35, [.ref 280, .int x1, .int x2], [], gm M)) (b := true) rfl rfl ?_
      rw [if_pos h3]
      obtain ⟨hb1, hs⟩ := ck_some hs
      by_cases h2 : (M.1 335 (Int32.toNatClampNeg x2)) = 0
      · rw [if_pos h2] at hs
        refine Rc.goL mt_1287 5 (f2 := (if (M.1 335 (Int32.toNatClampNeg x2)) = 0 then 26 else 22, [.ref 280, .int x1, .int x2], [.int x1], gm M)) (b := (ib 12 x2 && true)) rfl hb1 ?_
        rw [if_pos h2]
        refine Rc.goL mt_1287 0 (f2 := (27, [.ref 280, .int x1, .int x2], [.int (0 : Int32), .int x1], gm M)) (b := true) rfl rfl ?_
        refine Rc.goL mt_1287 3 (f2 := (4, [.ref 280, .int (x1 + (0 : Int32)), .int (x2 + (1 : Int32))], [], gm M)) (b := true) rfl rfl ?_
        refine Rc.less (ls2 := [.ref 280, .int (x1 + (0 : Int32)), .int (x2 + (1 : Int32))]) (by refine ⟨Or.inr rfl, Or.inr rfl, Or.inr rfl, trivial⟩) ?_
        exact ih (x1 + (0 : Int32)) (x2 + (1 : Int32)) _ _ _ hs
      · rw [if_neg h2] at hs
        refine Rc.goL mt_1287 5 (f2 := (if (M.1 335 (Int32.toNatClampNeg x2)) = 0 then 26 else 22, [.ref 280, .int x1, .int x2], [.int x1], gm M)) (b := (ib 12 x2 && true)) rfl hb1 ?_
        rw [if_neg h2]
        refine Rc.goL mt_1287 1 (f2 := (27, [.ref 280, .int x1, .int x2], [.int (1 : Int32), .int x1], gm M)) (b := true) rfl rfl ?_
        refine Rc.goL mt_1287 3 (f2 := (4, [.ref 280, .int (x1 + (1 : Int32)), .int (x2 + (1 : Int32))], [], gm M)) (b := true) rfl rfl ?_
        refine Rc.less (ls2 := [.ref 280, .int (x1 + (1 : Int32)), .int (x2 + (1 : Int32))]) (by refine ⟨Or.inr rfl, Or.inr rfl, Or.inr rfl, trivial⟩) ?_
        exact ih (x1 + (1 : Int32)) (x2 + (1 : Int32)) _ _ _ hs
    · rw [if_neg h3] at hs
      refine Rc.goL mt_1287 3 (f2 := (if x2 < (M.1 280 2) then 12 else 35, [.ref 280, .int x1, .int x2], [], gm M)) (b := true) rfl rfl ?_
      rw [if_neg h3]
      refine Rc.goL mt_1287 0 (f2 := (36, [.ref 280, .int x1, .int x2], [.int x1], gm M)) (b := true) rfl rfl ?_
      obtain ⟨e1, e2⟩ := some_p hs; subst e1; subst e2
      exact Rc.ret (v := some (.int x1)) rfl rfl
set_option maxRecDepth 20000 in
theorem qmd_strikers_ok (d : Nat) (hd : 1 ≤ d) {M : SM} {r : Int32} {Mz : SM} (hs : qmd_strikers M = some (r, Mz)) : Ex d 1287 [.ref 280] (gm M) (some (.int r), gm Mz) := by
  obtain ⟨d, rfl⟩ : ∃ d0, d = d0 + 1 := ⟨d - 1, by omega⟩
  refine Ex.of okm_1287 (by omega) (Nat.le_of_ble_eq_true rfl) ?_
  show Rc (d + 1) 1287 (0, [.ref 280, UU, UU], [], gm M) _
  unfold qmd_strikers at hs
  refine Rc.goL mt_1287 3 (f2 := (4, [.ref 280, .int (0 : Int32), .int (0 : Int32)], [], gm M)) (b := true) rfl rfl ?_
  refine Rc.less (ls2 := [.ref 280, .int (0 : Int32), .int (0 : Int32)]) (by refine ⟨Or.inr rfl, Or.inr rfl, Or.inr rfl, trivial⟩) ?_
  exact qmd_strikers_L4_ok d hd _ (0 : Int32) (0 : Int32) _ _ _ hs
def qmd_count (x1 : Int32) (M : SM) : Option (Int32 × SM) :=
  if x1 = (0 : Int32) then
  (some ((M.1 280 0), M)) else
  (if x1 = (1 : Int32) then
  (some ((M.1 280 1), M)) else
  (if x1 = (2 : Int32) then
  (some ((M.1 280 2), M)) else
  (if x1 = (3 : Int32) then
  (some ((M.1 280 3), M)) else
  (if x1 = (4 : Int32) then
  (some ((M.1 280 27), M)) else
  (if x1 = (5 : Int32) then
  (some ((M.1 280 28), M)) else
  (if x1 = (6 : Int32) then
  (some ((M.1 280 43), M)) else
  (if x1 = (7 : Int32) then
  (some ((M.1 280 80), M)) else
  (if x1 = (8 : Int32) then
  (some ((M.1 280 87), M)) else
  (if x1 = (9 : Int32) then
  (ob (qmd_strikers M) (fun r10 M11 =>
    some (r10, M11))) else
  (if x1 = (10 : Int32) then
  (some ((M.1 280 13), M)) else
  (if x1 = (11 : Int32) then
  (some ((M.1 280 61), M)) else
  (ob (qmd_in x1 (20 : Int32) ((19 : Int32) + (M.1 280 3)) M) (fun r16 M17 =>
    if r16 = 0 then
    (ob (qmd_in x1 (40 : Int32) ((39 : Int32) + (M17.1 280 27)) M17) (fun r19 M20 =>
      if r19 = 0 then
      (some ((-1 : Int32), M20)) else
      (ck (ib 10 (x1 - (40 : Int32)) && true) (
        some ((M20.1 297 (Int32.toNatClampNeg (x1 - (40 : Int32)))), M20))))) else
    (ob (qmd_hirerOf (x1 - (20 : Int32)) (M17.1 280 0) M17) (fun r24 M25 =>
      some (r24, M25))))))))))))))))
theorem mt_1288 : MT 1288 K_1288 LN_12 := ⟨rfl, rfl, by decide +kernel⟩
theorem okm_1288 : OKm 1288 := ⟨⟨vE_1288, okL_12, by decide +kernel⟩, by decide +kernel, by decide +kernel, by decide +kernel⟩
set_option maxRecDepth 20000 in
theorem qmd_count_ok (d : Nat) (hd : 2 ≤ d) {x1 : Int32} {M : SM} {r : Int32} {Mz : SM} (hs : qmd_count x1 M = some (r, Mz)) : Ex d 1288 [.ref 280, .int x1] (gm M) (some (.int r), gm Mz) := by
  obtain ⟨d, rfl⟩ : ∃ d0, d = d0 + 1 := ⟨d - 1, by omega⟩
  refine Ex.of okm_1288 (by omega) (Nat.le_of_ble_eq_true rfl) ?_
  show Rc (d + 1) 1288 (0, [.ref 280, .int x1], [], gm M) _
  unfold qmd_count at hs
  refine Rc.goL mt_1288 1 (f2 := (swl [(0, 64), (1, 69), (2, 74), (3, 79), (4, 84), (5, 89), (6, 94), (7, 99), (8, 104), (9, 109), (10, 114), (11, 119)] 124 x1, [.ref 280, .int x1], [], gm M)) (b := true) rfl rfl ?_
  by_cases h1 : x1 = (0 : Int32)
  · rw [if_pos h1] at hs
    rw [show swl [(0, 64), (1, 69), (2, 74), (3, 79), (4, 84), (5, 89), (6, 94), (7, 99), (8, 104), (9, 109), (10, 114), (11, 119)] 124 x1 = 64 by first | (simp only [swl, if_pos h1]; done) | (rw [h1]; decide)]
    refine Rc.goL mt_1288 1 (f2 := (68, [.ref 280, .int x1], [.int (M.1 280 0)], gm M)) (b := true) rfl rfl ?_
    obtain ⟨e1, e2⟩ := some_p hs; subst e1; subst e2
    exact Rc.ret (v := some (.int (M.1 280 0))) rfl rfl
  · rw [if_neg h1] at hs
    by_cases h2 : x1 = (1 : Int32)
    · rw [if_pos h2] at hs
      rw [show swl [(0, 64), (1, 69), (2, 74), (3, 79), (4, 84), (5, 89), (6, 94), (7, 99), (8, 104), (9, 109), (10, 114), (11, 119)] 124 x1 = 69 by first | (simp only [swl, if_pos h2]; done) | (rw [h2]; decide)]
      refine Rc.goL mt_1288 1 (f2 := (73, [.ref 280, .int x1], [.int (M.1 280 1)], gm M)) (b := true) rfl rfl ?_
      obtain ⟨e1, e2⟩ := some_p hs; subst e1; subst e2
      exact Rc.ret (v := some (.int (M.1 280 1))) rfl rfl
    · rw [if_neg h2] at hs
      by_cases h3 : x1 = (2 : Int32)
      · rw [if_pos h3] at hs
        rw [show swl [(0, 64), (1, 69), (2, 74), (3, 79), (4, 84), (5, 89), (6, 94), (7, 99), (8, 104), (9, 109), (10, 114), (11, 119)] 124 x1 = 74 by first | (simp only [swl, if_pos h3]; done) | (rw [h3]; decide)]
        refine Rc.goL mt_1288 1 (f2 := (78, [.ref 280, .int x1], [.int (M.1 280 2)], gm M)) (b := true) rfl rfl ?_
        obtain ⟨e1, e2⟩ := some_p hs; subst e1; subst e2
        exact Rc.ret (v := some (.int (M.1 280 2))) rfl rfl
      · rw [if_neg h3] at hs
        by_cases h4 : x1 = (3 : Int32)
        · rw [if_pos h4] at hs
          rw [show swl [(0, 64), (1, 69), (2, 74), (3, 79), (4, 84), (5, 89), (6, 94), (7, 99), (8, 104), (9, 109), (10, 114), (11, 119)] 124 x1 = 79 by first | (simp only [swl, if_pos h4]; done) | (rw [h4]; decide)]
          refine Rc.goL mt_1288 1 (f2 := (83, [.ref 280, .int x1], [.int (M.1 280 3)], gm M)) (b := true) rfl rfl ?_
          obtain ⟨e1, e2⟩ := some_p hs; subst e1; subst e2
          exact Rc.ret (v := some (.int (M.1 280 3))) rfl rfl
        · rw [if_neg h4] at hs
          by_cases h5 : x1 = (4 : Int32)
          · rw [if_pos h5] at hs
            rw [show swl [(0, 64), (1, 69), (2, 74), (3, 79), (4, 84), (5, 89), (6, 94), (7, 99), (8, 104), (9, 109), (10, 114), (11, 119)] 124 x1 = 84 by first | (simp only [swl, if_pos h5]; done) | (rw [h5]; decide)]
            refine Rc.goL mt_1288 1 (f2 := (88, [.ref 280, .int x1], [.int (M.1 280 27)], gm M)) (b := true) rfl rfl ?_
            obtain ⟨e1, e2⟩ := some_p hs; subst e1; subst e2
            exact Rc.ret (v := some (.int (M.1 280 27))) rfl rfl
          · rw [if_neg h5] at hs
            by_cases h6 : x1 = (5 : Int32)
            · rw [if_pos h6] at hs
              rw [show swl [(0, 64), (1, 69), (2, 74), (3, 79), (4, 84), (5, 89), (6, 94), (7, 99), (8, 104), (9, 109), (10, 114), (11, 119)] 124 x1 = 89 by first | (simp only [swl, if_pos h6]; done) | (rw [h6]; decide)]
              refine Rc.goL mt_1288 1 (f2 := (93, [.ref 280, .int x1], [.int (M.1 280 28)], gm M)) (b := true) rfl rfl ?_
              obtain ⟨e1, e2⟩ := some_p hs; subst e1; subst e2
              exact Rc.ret (v := some (.int (M.1 280 28))) rfl rfl
            · rw [if_neg h6] at hs
              by_cases h7 : x1 = (6 : Int32)
              · rw [if_pos h7] at hs
                rw [show swl [(0, 64), (1, 69), (2, 74), (3, 79), (4, 84), (5, 89), (6, 94), (7, 99), (8, 104), (9, 109), (10, 114), (11, 119)] 124 x1 = 94 by first | (simp only [swl, if_pos h7]; done) | (rw [h7]; decide)]
                refine Rc.goL mt_1288 1 (f2 := (98, [.ref 280, .int x1], [.int (M.1 280 43)], gm M)) (b := true) rfl rfl ?_
                obtain ⟨e1, e2⟩ := some_p hs; subst e1; subst e2
                exact Rc.ret (v := some (.int (M.1 280 43))) rfl rfl
              · rw [if_neg h7] at hs
                by_cases h8 : x1 = (7 : Int32)
                · rw [if_pos h8] at hs
                  rw [show swl [(0, 64), (1, 69), (2, 74), (3, 79), (4, 84), (5, 89), (6, 94), (7, 99), (8, 104), (9, 109), (10, 114), (11, 119)] 124 x1 = 99 by first | (simp only [swl, if_pos h8]; done) | (rw [h8]; decide)]
                  refine Rc.goL mt_1288 1 (f2 := (103, [.ref 280, .int x1], [.int (M.1 280 80)], gm M)) (b := true) rfl rfl ?_
                  obtain ⟨e1, e2⟩ := some_p hs; subst e1; subst e2
                  exact Rc.ret (v := some (.int (M.1 280 80))) rfl rfl
                · rw [if_neg h8] at hs
                  by_cases h9 : x1 = (8 : Int32)
                  · rw [if_pos h9] at hs
                    rw [show swl [(0, 64), (1, 69), (2, 74), (3, 79), (4, 84), (5, 89), (6, 94), (7, 99), (8, 104), (9, 109), (10, 114), (11, 119)] 124 x1 = 104 by first | (simp only [swl, if_pos h9]; done) | (rw [h9]; decide)]
                    refine Rc.goL mt_1288 1 (f2 := (108, [.ref 280, .int x1], [.int (M.1 280 87)], gm M)) (b := true) rfl rfl ?_
                    obtain ⟨e1, e2⟩ := some_p hs; subst e1; subst e2
                    exact Rc.ret (v := some (.int (M.1 280 87))) rfl rfl
                  · rw [if_neg h9] at hs
                    by_cases h13 : x1 = (9 : Int32)
                    · rw [if_pos h13] at hs
                      rw [show swl [(0, 64), (1, 69), (2, 74), (3, 79), (4, 84), (5, 89), (6, 94), (7, 99), (8, 104), (9, 109), (10, 114), (11, 119)] 124 x1 = 109 by first | (simp only [swl, if_pos h13]; done) | (rw [h13]; decide)]
                      refine Rc.goL mt_1288 0 (f2 := (110, [.ref 280, .int x1], [.ref 280], gm M)) (b := true) rfl rfl ?_
                      obtain ⟨r10, M11, he12, hs⟩ := ob_some hs
                      refine Rc.callV (i := 473) (mid' := 1287) (av := []) (rest := []) (v := some (.int r10)) (M1 := gm M11) (a := 280) rfl rfl rfl cw_1287 rfl (Nat.le_of_ble_eq_true rfl) rfl (Nat.le_of_ble_eq_true rfl) (qmd_strikers_ok _ (by omega) he12) ?_
                      obtain ⟨e1, e2⟩ := some_p hs; subst e1; subst e2
                      exact Rc.ret (v := some (.int r10)) rfl rfl
                    · rw [if_neg h13] at hs
                      by_cases h14 : x1 = (10 : Int32)
                      · rw [if_pos h14] at hs
                        rw [show swl [(0, 64), (1, 69), (2, 74), (3, 79), (4, 84), (5, 89), (6, 94), (7, 99), (8, 104), (9, 109), (10, 114), (11, 119)] 124 x1 = 114 by first | (simp only [swl, if_pos h14]; done) | (rw [h14]; decide)]
                        refine Rc.goL mt_1288 1 (f2 := (118, [.ref 280, .int x1], [.int (M.1 280 13)], gm M)) (b := true) rfl rfl ?_
                        obtain ⟨e1, e2⟩ := some_p hs; subst e1; subst e2
                        exact Rc.ret (v := some (.int (M.1 280 13))) rfl rfl
                      · rw [if_neg h14] at hs
                        by_cases h15 : x1 = (11 : Int32)
                        · rw [if_pos h15] at hs
                          rw [show swl [(0, 64), (1, 69), (2, 74), (3, 79), (4, 84), (5, 89), (6, 94), (7, 99), (8, 104), (9, 109), (10, 114), (11, 119)] 124 x1 = 119 by first | (simp only [swl, if_pos h15]; done) | (rw [h15]; decide)]
                          refine Rc.goL mt_1288 1 (f2 := (123, [.ref 280, .int x1], [.int (M.1 280 61)], gm M)) (b := true) rfl rfl ?_
                          obtain ⟨e1, e2⟩ := some_p hs; subst e1; subst e2
                          exact Rc.ret (v := some (.int (M.1 280 61))) rfl rfl
                        · rw [if_neg h15] at hs
                          rw [show swl [(0, 64), (1, 69), (2, 74), (3, 79), (4, 84), (5, 89), (6, 94), (7, 99), (8, 104), (9, 109), (10, 114), (11, 119)] 124 x1 = 124 by simp only [swl, if_neg h1, if_neg h2, if_neg h3, if_neg h4, if_neg h5, if_neg h6, if_neg h7, if_neg h8, if_neg h9, if_neg h13, if_neg h14, if_neg h15]]
                          refine Rc.goL mt_1288 5 (f2 := (134, [.ref 280, .int x1], [.int ((19 : Int32) + (M.1 280 3)), .int (20 : Int32), .int x1], gm M)) (b := true) rfl rfl ?_
                          obtain ⟨r16, M17, he18, hs⟩ := ob_some hs
                          refine Rc.callS (i := 195) (mid' := 1201) (av := [.int x1, .int (20 : Int32), .int ((19 : Int32) + (M.1 280 3))]) (rest := []) (v := some (.int r16)) (M1 := gm M17) rfl (Or.inl rfl) rfl cw_1201 rfl (Nat.le_of_ble_eq_true rfl) (qmd_in_ok _ (by omega) he18) ?_
                          by_cases h27 : r16 = 0
                          · rw [if_pos h27] at hs
                            refine Rc.goL mt_1288 0 (f2 := (if r16 = 0 then 153 else 140, [.ref 280, .int x1], [], gm M17)) (b := true) rfl rfl ?_
                            rw [if_pos h27]
                            refine Rc.goL mt_1288 5 (f2 := (163, [.ref 280, .int x1], [.int ((39 : Int32) + (M17.1 280 27)), .int (40 : Int32), .int x1], gm M17)) (b := true) rfl rfl ?_
                            obtain ⟨r19, M20, he21, hs⟩ := ob_some hs
                            refine Rc.callS (i := 195) (mid' := 1201) (av := [.int x1, .int (40 : Int32), .int ((39 : Int32) + (M17.1 280 27))]) (rest := []) (v := some (.int r19)) (M1 := gm M20) rfl (Or.inl rfl) rfl cw_1201 rfl (Nat.le_of_ble_eq_true rfl) (qmd_in_ok _ (by omega) he21) ?_
                            by_cases h23 : r19 = 0
                            · rw [if_pos h23] at hs
                              refine Rc.goL mt_1288 0 (f2 := (if r19 = 0 then 181 else 169, [.ref 280, .int x1], [], gm M20)) (b := true) rfl rfl ?_
                              rw [if_pos h23]
                              refine Rc.goL mt_1288 0 (f2 := (182, [.ref 280, .int x1], [.int (-1 : Int32)], gm M20)) (b := true) rfl rfl ?_
                              obtain ⟨e1, e2⟩ := some_p hs; subst e1; subst e2
                              exact Rc.ret (v := some (.int (-1 : Int32))) rfl rfl
                            · rw [if_neg h23] at hs
                              refine Rc.goL mt_1288 0 (f2 := (if r19 = 0 then 181 else 169, [.ref 280, .int x1], [], gm M20)) (b := true) rfl rfl ?_
                              rw [if_neg h23]
                              obtain ⟨hb22, hs⟩ := ck_some hs
                              refine Rc.goL mt_1288 6 (f2 := (182, [.ref 280, .int x1], [.int (M20.1 297 (Int32.toNatClampNeg (x1 - (40 : Int32))))], gm M20)) (b := (ib 10 (x1 - (40 : Int32)) && true)) rfl hb22 ?_
                              obtain ⟨e1, e2⟩ := some_p hs; subst e1; subst e2
                              exact Rc.ret (v := some (.int (M20.1 297 (Int32.toNatClampNeg (x1 - (40 : Int32)))))) rfl rfl
                          · rw [if_neg h27] at hs
                            refine Rc.goL mt_1288 0 (f2 := (if r16 = 0 then 153 else 140, [.ref 280, .int x1], [], gm M17)) (b := true) rfl rfl ?_
                            rw [if_neg h27]
                            refine Rc.goL mt_1288 5 (f2 := (149, [.ref 280, .int x1], [.int (M17.1 280 0), .int (x1 - (20 : Int32)), .ref 280], gm M17)) (b := true) rfl rfl ?_
                            obtain ⟨r24, M25, he26, hs⟩ := ob_some hs
                            refine Rc.callV (i := 208) (mid' := 1210) (av := [.int (x1 - (20 : Int32)), .int (M17.1 280 0)]) (rest := []) (v := some (.int r24)) (M1 := gm M25) (a := 280) rfl rfl rfl cw_1210 rfl (Nat.le_of_ble_eq_true rfl) rfl (Nat.le_of_ble_eq_true rfl) (qmd_hirerOf_ok _ (by omega) he26) ?_
                            obtain ⟨e1, e2⟩ := some_p hs; subst e1; subst e2
                            exact Rc.ret (v := some (.int r24)) rfl rfl
