def qfr_owes (x1 : Int32) (x2 : Int32) (x3 : Int32) (M : SM) : Option (Int32 × SM) :=
  if x1 = x2 then
  (some ((0 : Int32), M)) else
  (ob (qfr_isSomeone x1 M) (fun r1 M2 =>
    if r1 = 0 then
    (some ((0 : Int32), M2)) else
    (ob (qfr_isSomeone x2 M2) (fun r4 M5 =>
      if r4 = 0 then
      (some ((0 : Int32), M5)) else
      (ob (qfr_within x3 (1 : Int32) (1000000 : Int32) M5) (fun r7 M8 =>
        if r7 = 0 then
        (some ((0 : Int32), M8)) else
        (ob (qdb_add x1 x2 x3 M8) (fun _ M10 =>
          some ((1 : Int32), M10)))))))))
theorem mt_1126 : MT 1126 K_1126 LN_11 := ⟨rfl, rfl, by decide +kernel⟩
theorem okm_1126 : OKm 1126 := ⟨⟨vE_1126, okL_11, by decide +kernel⟩, by decide +kernel, by decide +kernel, by decide +kernel⟩
set_option maxRecDepth 20000 in
theorem qfr_owes_ok (d : Nat) (hd : 3 ≤ d) {x1 : Int32} {x2 : Int32} {x3 : Int32} {M : SM} {r : Int32} {Mz : SM} (hs : qfr_owes x1 x2 x3 M = some (r, Mz)) : Ex d 1126 [.ref 0, .int x1, .int x2, .int x3] (gm M) (some (.int r), gm Mz) := by
  obtain ⟨d, rfl⟩ : ∃ d0, d = d0 + 1 := ⟨d - 1, by omega⟩
  refine Ex.of okm_1126 (by omega) (Nat.le_of_ble_eq_true rfl) ?_
  show Rc (d + 1) 1126 (0, [.ref 0, .int x1, .int x2, .int x3], [], gm M) _
  unfold qfr_owes at hs
  by_cases h16 : x1 = x2
  · rw [if_pos h16] at hs
    refine Rc.goL mt_1126 2 (f2 := (if x1 = x2 then 32 else 5, [.ref 0, .int x1, .int x2, .int x3], [], gm M)) (b := true) rfl rfl ?_
    rw [if_pos h16]
    refine Rc.goL mt_1126 0 (f2 := (33, [.ref 0, .int x1, .int x2, .int x3], [.int (0 : Int32)], gm M)) (b := true) rfl rfl ?_
    obtain ⟨e1, e2⟩ := some_p hs; subst e1; subst e2
    exact Rc.ret (v := some (.int (0 : Int32))) rfl rfl
  · rw [if_neg h16] at hs
    refine Rc.goL mt_1126 2 (f2 := (if x1 = x2 then 32 else 5, [.ref 0, .int x1, .int x2, .int x3], [], gm M)) (b := true) rfl rfl ?_
    rw [if_neg h16]
    refine Rc.goL mt_1126 1 (f2 := (7, [.ref 0, .int x1, .int x2, .int x3], [.int x1, .ref 0], gm M)) (b := true) rfl rfl ?_
    obtain ⟨r1, M2, he3, hs⟩ := ob_some hs
    refine Rc.callV (i := 330) (mid' := 1140) (av := [.int x1]) (rest := []) (v := some (.int r1)) (M1 := gm M2) (a := 0) rfl rfl rfl cw_1140 rfl (Nat.le_of_ble_eq_true rfl) rfl (Nat.le_of_ble_eq_true rfl) (qfr_isSomeone_ok _ (by omega) he3) ?_
    by_cases h15 : r1 = 0
    · rw [if_pos h15] at hs
      refine Rc.goL mt_1126 0 (f2 := (if r1 = 0 then 32 else 13, [.ref 0, .int x1, .int x2, .int x3], [], gm M2)) (b := true) rfl rfl ?_
      rw [if_pos h15]
      refine Rc.goL mt_1126 0 (f2 := (33, [.ref 0, .int x1, .int x2, .int x3], [.int (0 : Int32)], gm M2)) (b := true) rfl rfl ?_
      obtain ⟨e1, e2⟩ := some_p hs; subst e1; subst e2
      exact Rc.ret (v := some (.int (0 : Int32))) rfl rfl
    · rw [if_neg h15] at hs
      refine Rc.goL mt_1126 0 (f2 := (if r1 = 0 then 32 else 13, [.ref 0, .int x1, .int x2, .int x3], [], gm M2)) (b := true) rfl rfl ?_
      rw [if_neg h15]
      refine Rc.goL mt_1126 1 (f2 := (15, [.ref 0, .int x1, .int x2, .int x3], [.int x2, .ref 0], gm M2)) (b := true) rfl rfl ?_
      obtain ⟨r4, M5, he6, hs⟩ := ob_some hs
      refine Rc.callV (i := 330) (mid' := 1140) (av := [.int x2]) (rest := []) (v := some (.int r4)) (M1 := gm M5) (a := 0) rfl rfl rfl cw_1140 rfl (Nat.le_of_ble_eq_true rfl) rfl (Nat.le_of_ble_eq_true rfl) (qfr_isSomeone_ok _ (by omega) he6) ?_
      by_cases h14 : r4 = 0
      · rw [if_pos h14] at hs
        refine Rc.goL mt_1126 0 (f2 := (if r4 = 0 then 32 else 21, [.ref 0, .int x1, .int x2, .int x3], [], gm M5)) (b := true) rfl rfl ?_
        rw [if_pos h14]
        refine Rc.goL mt_1126 0 (f2 := (33, [.ref 0, .int x1, .int x2, .int x3], [.int (0 : Int32)], gm M5)) (b := true) rfl rfl ?_
        obtain ⟨e1, e2⟩ := some_p hs; subst e1; subst e2
        exact Rc.ret (v := some (.int (0 : Int32))) rfl rfl
      · rw [if_neg h14] at hs
        refine Rc.goL mt_1126 0 (f2 := (if r4 = 0 then 32 else 21, [.ref 0, .int x1, .int x2, .int x3], [], gm M5)) (b := true) rfl rfl ?_
        rw [if_neg h14]
        refine Rc.goL mt_1126 2 (f2 := (26, [.ref 0, .int x1, .int x2, .int x3], [.int (1000000 : Int32), .int (1 : Int32), .int x3], gm M5)) (b := true) rfl rfl ?_
        obtain ⟨r7, M8, he9, hs⟩ := ob_some hs
        refine Rc.callS (i := 96) (mid' := 1137) (av := [.int x3, .int (1 : Int32), .int (1000000 : Int32)]) (rest := []) (v := some (.int r7)) (M1 := gm M8) rfl (Or.inl rfl) rfl cw_1137 rfl (Nat.le_of_ble_eq_true rfl) (qfr_within_ok _ (by omega) he9) ?_
        by_cases h13 : r7 = 0
        · rw [if_pos h13] at hs
          refine Rc.goL mt_1126 0 (f2 := (if r7 = 0 then 32 else 34, [.ref 0, .int x1, .int x2, .int x3], [], gm M8)) (b := true) rfl rfl ?_
          rw [if_pos h13]
          refine Rc.goL mt_1126 0 (f2 := (33, [.ref 0, .int x1, .int x2, .int x3], [.int (0 : Int32)], gm M8)) (b := true) rfl rfl ?_
          obtain ⟨e1, e2⟩ := some_p hs; subst e1; subst e2
          exact Rc.ret (v := some (.int (0 : Int32))) rfl rfl
        · rw [if_neg h13] at hs
          refine Rc.goL mt_1126 0 (f2 := (if r7 = 0 then 32 else 34, [.ref 0, .int x1, .int x2, .int x3], [], gm M8)) (b := true) rfl rfl ?_
          rw [if_neg h13]
          refine Rc.goL mt_1126 4 (f2 := (41, [.ref 0, .int x1, .int x2, .int x3], [.int x3, .int x2, .int x1, .ref 273], gm M8)) (b := true) rfl rfl ?_
          obtain ⟨u12, M10, he11, hs⟩ := ob_some hs
          refine Rc.callV (i := 334) (mid' := 102) (av := [.int x1, .int x2, .int x3]) (rest := []) (v := none) (M1 := gm M10) (a := 273) rfl rfl rfl cw_102 rfl (Nat.le_of_ble_eq_true rfl) rfl (Nat.le_of_ble_eq_true rfl) (qdb_add_ok _ (by omega) he11) ?_
          refine Rc.goL mt_1126 0 (f2 := (45, [.ref 0, .int x1, .int x2, .int x3], [.int (1 : Int32)], gm M10)) (b := true) rfl rfl ?_
          obtain ⟨e1, e2⟩ := some_p hs; subst e1; subst e2
          exact Rc.ret (v := some (.int (1 : Int32))) rfl rfl
def qfr_net (x1 : Int32) (M : SM) : Option (Int64 × SM) :=
  ob (qfr_isSomeone x1 M) (fun r1 M2 =>
  if r1 = 0 then
  (some ((0 : Int64), M2)) else
  (ob (qdb_balanceOf x1 M2) (fun r4 M5 =>
    some (r4, M5))))
theorem mt_1127 : MT 1127 K_1127 LN_11 := ⟨rfl, rfl, by decide +kernel⟩
theorem okm_1127 : OKm 1127 := ⟨⟨vE_1127, okL_11, by decide +kernel⟩, by decide +kernel, by decide +kernel, by decide +kernel⟩
set_option maxRecDepth 20000 in
theorem qfr_net_ok (d : Nat) (hd : 3 ≤ d) {x1 : Int32} {M : SM} {r : Int64} {Mz : SM} (hs : qfr_net x1 M = some (r, Mz)) : Ex d 1127 [.ref 0, .int x1] (gm M) (some (.long r), gm Mz) := by
  obtain ⟨d, rfl⟩ : ∃ d0, d = d0 + 1 := ⟨d - 1, by omega⟩
  refine Ex.of okm_1127 (by omega) (Nat.le_of_ble_eq_true rfl) ?_
  show Rc (d + 1) 1127 (0, [.ref 0, .int x1], [], gm M) _
  unfold qfr_net at hs
  refine Rc.goL mt_1127 1 (f2 := (2, [.ref 0, .int x1], [.int x1, .ref 0], gm M)) (b := true) rfl rfl ?_
  obtain ⟨r1, M2, he3, hs⟩ := ob_some hs
  refine Rc.callV (i := 330) (mid' := 1140) (av := [.int x1]) (rest := []) (v := some (.int r1)) (M1 := gm M2) (a := 0) rfl rfl rfl cw_1140 rfl (Nat.le_of_ble_eq_true rfl) rfl (Nat.le_of_ble_eq_true rfl) (qfr_isSomeone_ok _ (by omega) he3) ?_
  by_cases h7 : r1 = 0
  · rw [if_pos h7] at hs
    refine Rc.goL mt_1127 0 (f2 := (if r1 = 0 then 19 else 8, [.ref 0, .int x1], [], gm M2)) (b := true) rfl rfl ?_
    rw [if_pos h7]
    refine Rc.goL mt_1127 0 (f2 := (20, [.ref 0, .int x1], [.long (0 : Int64)], gm M2)) (b := true) rfl rfl ?_
    obtain ⟨e1, e2⟩ := some_p hs; subst e1; subst e2
    exact Rc.ret (v := some (.long (0 : Int64))) rfl rfl
  · rw [if_neg h7] at hs
    refine Rc.goL mt_1127 0 (f2 := (if r1 = 0 then 19 else 8, [.ref 0, .int x1], [], gm M2)) (b := true) rfl rfl ?_
    rw [if_neg h7]
    refine Rc.goL mt_1127 2 (f2 := (13, [.ref 0, .int x1], [.int x1, .ref 273], gm M2)) (b := true) rfl rfl ?_
    obtain ⟨r4, M5, he6, hs⟩ := ob_some hs
    refine Rc.callV (i := 336) (mid' := 103) (av := [.int x1]) (rest := []) (v := some (.long r4)) (M1 := gm M5) (a := 273) rfl rfl rfl cw_103 rfl (Nat.le_of_ble_eq_true rfl) rfl (Nat.le_of_ble_eq_true rfl) (qdb_balanceOf_ok _ (by omega) he6) ?_
    refine Rc.goL mt_1127 0 (f2 := (20, [.ref 0, .int x1], [.long r4], gm M5)) (b := true) rfl rfl ?_
    obtain ⟨e1, e2⟩ := some_p hs; subst e1; subst e2
    exact Rc.ret (v := some (.long r4)) rfl rfl
def qfr_payments (M : SM) : Option (Int32 × SM) :=
  ob (qdb_fewestPayments M) (fun r1 M2 =>
  some (r1, M2))
theorem mt_1128 : MT 1128 K_1128 LN_11 := ⟨rfl, rfl, by decide +kernel⟩
theorem okm_1128 : OKm 1128 := ⟨⟨vE_1128, okL_11, by decide +kernel⟩, by decide +kernel, by decide +kernel, by decide +kernel⟩
set_option maxRecDepth 20000 in
theorem qfr_payments_ok (d : Nat) (hd : 4 ≤ d) {M : SM} {r : Int32} {Mz : SM} (hs : qfr_payments M = some (r, Mz)) : Ex d 1128 [.ref 0] (gm M) (some (.int r), gm Mz) := by
  obtain ⟨d, rfl⟩ : ∃ d0, d = d0 + 1 := ⟨d - 1, by omega⟩
  refine Ex.of okm_1128 (by omega) (Nat.le_of_ble_eq_true rfl) ?_
  show Rc (d + 1) 1128 (0, [.ref 0], [], gm M) _
  unfold qfr_payments at hs
  refine Rc.goL mt_1128 1 (f2 := (4, [.ref 0], [.ref 273], gm M)) (b := true) rfl rfl ?_
  obtain ⟨r1, M2, he3, hs⟩ := ob_some hs
  refine Rc.callV (i := 339) (mid' := 105) (av := []) (rest := []) (v := some (.int r1)) (M1 := gm M2) (a := 273) rfl rfl rfl cw_105 rfl (Nat.le_of_ble_eq_true rfl) rfl (Nat.le_of_ble_eq_true rfl) (qdb_fewestPayments_ok _ (by omega) he3) ?_
  obtain ⟨e1, e2⟩ := some_p hs; subst e1; subst e2
  exact Rc.ret (v := some (.int r1)) rfl rfl
def qfr_clear (M : SM) : Option (Int32 × SM) :=
  ob (qdb_payAll M) (fun r1 M2 =>
  ck (decide (r1 = 0) || decide (r1 = 1)) (some (r1, M2)))
theorem mt_1129 : MT 1129 K_1129 LN_11 := ⟨rfl, rfl, by decide +kernel⟩
theorem okm_1129 : OKm 1129 := ⟨⟨vE_1129, okL_11, by decide +kernel⟩, by decide +kernel, by decide +kernel, by decide +kernel⟩
set_option maxRecDepth 20000 in
theorem qfr_clear_ok (d : Nat) (hd : 2 ≤ d) {M : SM} {r : Int32} {Mz : SM} (hs : qfr_clear M = some (r, Mz)) : Ex d 1129 [.ref 0] (gm M) (some (.int r), gm Mz) := by
  obtain ⟨d, rfl⟩ : ∃ d0, d = d0 + 1 := ⟨d - 1, by omega⟩
  refine Ex.of okm_1129 (by omega) (Nat.le_of_ble_eq_true rfl) ?_
  show Rc (d + 1) 1129 (0, [.ref 0], [], gm M) _
  unfold qfr_clear at hs
  refine Rc.goL mt_1129 1 (f2 := (4, [.ref 0], [.ref 273], gm M)) (b := true) rfl rfl ?_
  obtain ⟨r1, M2, he3, hs⟩ := ob_some hs
  refine Rc.callV (i := 342) (mid' := 104) (av := []) (rest := []) (v := some (.int r1)) (M1 := gm M2) (a := 273) rfl rfl rfl cw_104 rfl (Nat.le_of_ble_eq_true rfl) rfl (Nat.le_of_ble_eq_true rfl) (qdb_payAll_ok _ (by omega) he3) ?_
  obtain ⟨hc4, hs⟩ := ck_some hs
  obtain ⟨e1, e2⟩ := some_p hs; subst e1; subst e2
  exact Rc.ret (v := some (.int r1)) rfl hc4
def qfr_fund (x1 : Int32) (M : SM) : Option (Int32 × SM) :=
  ob (qfr_within x1 (1 : Int32) (1000000 : Int32) M) (fun r1 M2 =>
  if r1 = 0 then
  (some ((-1 : Int32), M2)) else
  (ob (qfu_add x1 M2) (fun r4 M5 =>
    some (r4, M5))))
theorem mt_1130 : MT 1130 K_1130 LN_11 := ⟨rfl, rfl, by decide +kernel⟩
theorem okm_1130 : OKm 1130 := ⟨⟨vE_1130, okL_11, by decide +kernel⟩, by decide +kernel, by decide +kernel, by decide +kernel⟩
set_option maxRecDepth 20000 in
theorem qfr_fund_ok (d : Nat) (hd : 2 ≤ d) {x1 : Int32} {M : SM} {r : Int32} {Mz : SM} (hs : qfr_fund x1 M = some (r, Mz)) : Ex d 1130 [.ref 0, .int x1] (gm M) (some (.int r), gm Mz) := by
  obtain ⟨d, rfl⟩ : ∃ d0, d = d0 + 1 := ⟨d - 1, by omega⟩
  refine Ex.of okm_1130 (by omega) (Nat.le_of_ble_eq_true rfl) ?_
  show Rc (d + 1) 1130 (0, [.ref 0, .int x1], [], gm M) _
  unfold qfr_fund at hs
  refine Rc.goL mt_1130 2 (f2 := (5, [.ref 0, .int x1], [.int (1000000 : Int32), .int (1 : Int32), .int x1], gm M)) (b := true) rfl rfl ?_
  obtain ⟨r1, M2, he3, hs⟩ := ob_some hs
  refine Rc.callS (i := 96) (mid' := 1137) (av := [.int x1, .int (1 : Int32), .int (1000000 : Int32)]) (rest := []) (v := some (.int r1)) (M1 := gm M2) rfl (Or.inl rfl) rfl cw_1137 rfl (Nat.le_of_ble_eq_true rfl) (qfr_within_ok _ (by omega) he3) ?_
  by_cases h7 : r1 = 0
  · rw [if_pos h7] at hs
    refine Rc.goL mt_1130 0 (f2 := (if r1 = 0 then 11 else 13, [.ref 0, .int x1], [], gm M2)) (b := true) rfl rfl ?_
    rw [if_pos h7]
    refine Rc.goL mt_1130 0 (f2 := (12, [.ref 0, .int x1], [.int (-1 : Int32)], gm M2)) (b := true) rfl rfl ?_
    obtain ⟨e1, e2⟩ := some_p hs; subst e1; subst e2
    exact Rc.ret (v := some (.int (-1 : Int32))) rfl rfl
  · rw [if_neg h7] at hs
    refine Rc.goL mt_1130 0 (f2 := (if r1 = 0 then 11 else 13, [.ref 0, .int x1], [], gm M2)) (b := true) rfl rfl ?_
    rw [if_neg h7]
    refine Rc.goL mt_1130 2 (f2 := (18, [.ref 0, .int x1], [.int x1, .ref 278], gm M2)) (b := true) rfl rfl ?_
    obtain ⟨r4, M5, he6, hs⟩ := ob_some hs
    refine Rc.callV (i := 346) (mid' := 301) (av := [.int x1]) (rest := []) (v := some (.int r4)) (M1 := gm M5) (a := 278) rfl rfl rfl cw_301 rfl (Nat.le_of_ble_eq_true rfl) rfl (Nat.le_of_ble_eq_true rfl) (qfu_add_ok _ (by omega) he6) ?_
    obtain ⟨e1, e2⟩ := some_p hs; subst e1; subst e2
    exact Rc.ret (v := some (.int r4)) rfl rfl
def qfr_strike (x1 : Int32) (x2 : Int32) (M : SM) : Option (Int32 × SM) :=
  ob (qtn_hasKnitter x1 M) (fun r1 M2 =>
  if r1 = 0 then
  (some ((0 : Int32), M2)) else
  (ob (qfu_isStriker x1 M2) (fun r4 M5 =>
    if r4 = x2 then
    (some ((0 : Int32), M5)) else
    (ob (qfu_setStriker x1 x2 M5) (fun _ M7 =>
      some ((1 : Int32), M7))))))
theorem mt_1131 : MT 1131 K_1131 LN_11 := ⟨rfl, rfl, by decide +kernel⟩
theorem okm_1131 : OKm 1131 := ⟨⟨vE_1131, okL_11, by decide +kernel⟩, by decide +kernel, by decide +kernel, by decide +kernel⟩
set_option maxRecDepth 20000 in
theorem qfr_strike_ok (d : Nat) (hd : 2 ≤ d) {x1 : Int32} {x2 : Int32} {M : SM} {r : Int32} {Mz : SM} (hs : qfr_strike x1 x2 M = some (r, Mz)) : Ex d 1131 [.ref 0, .int x1, .int x2] (gm M) (some (.int r), gm Mz) := by
  obtain ⟨d, rfl⟩ : ∃ d0, d = d0 + 1 := ⟨d - 1, by omega⟩
  refine Ex.of okm_1131 (by omega) (Nat.le_of_ble_eq_true rfl) ?_
  show Rc (d + 1) 1131 (0, [.ref 0, .int x1, .int x2], [], gm M) _
  unfold qfr_strike at hs
  refine Rc.goL mt_1131 2 (f2 := (5, [.ref 0, .int x1, .int x2], [.int x1, .ref 179], gm M)) (b := true) rfl rfl ?_
  obtain ⟨r1, M2, he3, hs⟩ := ob_some hs
  refine Rc.callV (i := 106) (mid' := 1003) (av := [.int x1]) (rest := []) (v := some (.int r1)) (M1 := gm M2) (a := 179) rfl rfl rfl cw_1003 rfl (Nat.le_of_ble_eq_true rfl) rfl (Nat.le_of_ble_eq_true rfl) (qtn_hasKnitter_ok _ (by omega) he3) ?_
  by_cases h11 : r1 = 0
  · rw [if_pos h11] at hs
    refine Rc.goL mt_1131 0 (f2 := (if r1 = 0 then 23 else 11, [.ref 0, .int x1, .int x2], [], gm M2)) (b := true) rfl rfl ?_
    rw [if_pos h11]
    refine Rc.goL mt_1131 0 (f2 := (24, [.ref 0, .int x1, .int x2], [.int (0 : Int32)], gm M2)) (b := true) rfl rfl ?_
    obtain ⟨e1, e2⟩ := some_p hs; subst e1; subst e2
    exact Rc.ret (v := some (.int (0 : Int32))) rfl rfl
  · rw [if_neg h11] at hs
    refine Rc.goL mt_1131 0 (f2 := (if r1 = 0 then 23 else 11, [.ref 0, .int x1, .int x2], [], gm M2)) (b := true) rfl rfl ?_
    rw [if_neg h11]
    refine Rc.goL mt_1131 2 (f2 := (16, [.ref 0, .int x1, .int x2], [.int x1, .ref 278], gm M2)) (b := true) rfl rfl ?_
    obtain ⟨r4, M5, he6, hs⟩ := ob_some hs
    refine Rc.callV (i := 347) (mid' := 302) (av := [.int x1]) (rest := []) (v := some (.int r4)) (M1 := gm M5) (a := 278) rfl rfl rfl cw_302 rfl (Nat.le_of_ble_eq_true rfl) rfl (Nat.le_of_ble_eq_true rfl) (qfu_isStriker_ok _ (by omega) he6) ?_
    by_cases h10 : r4 = x2
    · rw [if_pos h10] at hs
      refine Rc.goL mt_1131 1 (f2 := (if r4 = x2 then 23 else 25, [.ref 0, .int x1, .int x2], [], gm M5)) (b := true) rfl rfl ?_
      rw [if_pos h10]
      refine Rc.goL mt_1131 0 (f2 := (24, [.ref 0, .int x1, .int x2], [.int (0 : Int32)], gm M5)) (b := true) rfl rfl ?_
      obtain ⟨e1, e2⟩ := some_p hs; subst e1; subst e2
      exact Rc.ret (v := some (.int (0 : Int32))) rfl rfl
    · rw [if_neg h10] at hs
      refine Rc.goL mt_1131 1 (f2 := (if r4 = x2 then 23 else 25, [.ref 0, .int x1, .int x2], [], gm M5)) (b := true) rfl rfl ?_
      rw [if_neg h10]
      refine Rc.goL mt_1131 3 (f2 := (31, [.ref 0, .int x1, .int x2], [.int x2, .int x1, .ref 278], gm M5)) (b := true) rfl rfl ?_
      obtain ⟨u9, M7, he8, hs⟩ := ob_some hs
      refine Rc.callV (i := 350) (mid' := 303) (av := [.int x1, .int x2]) (rest := []) (v := none) (M1 := gm M7) (a := 278) rfl rfl rfl cw_303 rfl (Nat.le_of_ble_eq_true rfl) rfl (Nat.le_of_ble_eq_true rfl) (qfu_setStriker_ok _ (by omega) he8) ?_
      refine Rc.goL mt_1131 0 (f2 := (35, [.ref 0, .int x1, .int x2], [.int (1 : Int32)], gm M7)) (b := true) rfl rfl ?_
      obtain ⟨e1, e2⟩ := some_p hs; subst e1; subst e2
      exact Rc.ret (v := some (.int (1 : Int32))) rfl rfl
def qfr_lasts (M : SM) : Option (Int32 × SM) :=
  ob (qfu_wholeWeeks M) (fun r1 M2 =>
  some (r1, M2))
theorem mt_1132 : MT 1132 K_1132 LN_11 := ⟨rfl, rfl, by decide +kernel⟩
theorem okm_1132 : OKm 1132 := ⟨⟨vE_1132, okL_11, by decide +kernel⟩, by decide +kernel, by decide +kernel, by decide +kernel⟩
set_option maxRecDepth 20000 in
theorem qfr_lasts_ok (d : Nat) (hd : 5 ≤ d) {M : SM} {r : Int32} {Mz : SM} (hs : qfr_lasts M = some (r, Mz)) : Ex d 1132 [.ref 0] (gm M) (some (.int r), gm Mz) := by
  obtain ⟨d, rfl⟩ : ∃ d0, d = d0 + 1 := ⟨d - 1, by omega⟩
  refine Ex.of okm_1132 (by omega) (Nat.le_of_ble_eq_true rfl) ?_
  show Rc (d + 1) 1132 (0, [.ref 0], [], gm M) _
  unfold qfr_lasts at hs
  refine Rc.goL mt_1132 3 (f2 := (8, [.ref 0], [.ref 179, .ref 278], gm M)) (b := true) rfl rfl ?_
  obtain ⟨r1, M2, he3, hs⟩ := ob_some hs
  refine Rc.callV (i := 354) (mid' := 306) (av := [.ref 179]) (rest := []) (v := some (.int r1)) (M1 := gm M2) (a := 278) rfl rfl rfl cw_306 rfl (Nat.le_of_ble_eq_true rfl) rfl (Nat.le_of_ble_eq_true rfl) (qfu_wholeWeeks_ok _ (by omega) he3) ?_
  obtain ⟨e1, e2⟩ := some_p hs; subst e1; subst e2
  exact Rc.ret (v := some (.int r1)) rfl rfl
def qfr_goes (M : SM) : Option (Int32 × SM) :=
  if (M.1 179 0) < (519 : Int32) then
  (ob (qfu_payWeek M) (fun r1 M2 =>
    some (r1, (wI M2 179 0 ((M2.1 179 0) + (1 : Int32)))))) else
  (some ((-1 : Int32), M))
theorem mt_1133 : MT 1133 K_1133 LN_11 := ⟨rfl, rfl, by decide +kernel⟩
theorem okm_1133 : OKm 1133 := ⟨⟨vE_1133, okL_11, by decide +kernel⟩, by decide +kernel, by decide +kernel, by decide +kernel⟩
set_option maxRecDepth 20000 in
theorem qfr_goes_ok (d : Nat) (hd : 5 ≤ d) {M : SM} {r : Int32} {Mz : SM} (hs : qfr_goes M = some (r, Mz)) : Ex d 1133 [.ref 0] (gm M) (some (.int r), gm Mz) := by
  obtain ⟨d, rfl⟩ : ∃ d0, d = d0 + 1 := ⟨d - 1, by omega⟩
  refine Ex.of okm_1133 (by omega) (Nat.le_of_ble_eq_true rfl) ?_
  show Rc (d + 1) 1133 (0, [.ref 0, UU], [], gm M) _
  unfold qfr_goes at hs
  by_cases h4 : (M.1 179 0) < (519 : Int32)
  · rw [if_pos h4] at hs
    refine Rc.goL mt_1133 4 (f2 := (if (M.1 179 0) < (519 : Int32) then 15 else 13, [.ref 0, UU], [], gm M)) (b := true) rfl rfl ?_
    rw [if_pos h4]
    refine Rc.goL mt_1133 3 (f2 := (23, [.ref 0, UU], [.ref 179, .ref 278], gm M)) (b := true) rfl rfl ?_
    obtain ⟨r1, M2, he3, hs⟩ := ob_some hs
    refine Rc.callV (i := 358) (mid' := 307) (av := [.ref 179]) (rest := []) (v := some (.int r1)) (M1 := gm M2) (a := 278) rfl rfl rfl cw_307 rfl (Nat.le_of_ble_eq_true rfl) rfl (Nat.le_of_ble_eq_true rfl) (qfu_payWeek_ok _ (by omega) he3) ?_
    refine Rc.goL mt_1133 6 (f2 := (37, [.ref 0, .int r1], [.int ((M2.1 179 0) + (1 : Int32)), .ref 179], gm M2)) (b := true) rfl rfl ?_
    refine Rc.goL mt_1133 0 (f2 := (40, [.ref 0, .int r1], [], gm (wI M2 179 0 ((M2.1 179 0) + (1 : Int32))))) (b := true) rfl rfl ?_
    refine Rc.goL mt_1133 0 (f2 := (41, [.ref 0, .int r1], [.int r1], gm (wI M2 179 0 ((M2.1 179 0) + (1 : Int32))))) (b := true) rfl rfl ?_
    obtain ⟨e1, e2⟩ := some_p hs; subst e1; subst e2
    exact Rc.ret (v := some (.int r1)) rfl rfl
  · rw [if_neg h4] at hs
    refine Rc.goL mt_1133 4 (f2 := (if (M.1 179 0) < (519 : Int32) then 15 else 13, [.ref 0, UU], [], gm M)) (b := true) rfl rfl ?_
    rw [if_neg h4]
    refine Rc.goL mt_1133 0 (f2 := (14, [.ref 0, UU], [.int (-1 : Int32)], gm M)) (b := true) rfl rfl ?_
    obtain ⟨e1, e2⟩ := some_p hs; subst e1; subst e2
    exact Rc.ret (v := some (.int (-1 : Int32))) rfl rfl
def qfr_look (x1 : Int32) (x2 : Int32) (M : SM) : Option (Int32 × SM) :=
  ob (qen_at x1 x2 M) (fun r1 M2 =>
  some (r1, M2))
theorem mt_1134 : MT 1134 K_1134 LN_11 := ⟨rfl, rfl, by decide +kernel⟩
theorem okm_1134 : OKm 1134 := ⟨⟨vE_1134, okL_11, by decide +kernel⟩, by decide +kernel, by decide +kernel, by decide +kernel⟩
set_option maxRecDepth 20000 in
theorem qfr_look_ok (d : Nat) (hd : 3 ≤ d) {x1 : Int32} {x2 : Int32} {M : SM} {r : Int32} {Mz : SM} (hs : qfr_look x1 x2 M = some (r, Mz)) : Ex d 1134 [.ref 0, .int x1, .int x2] (gm M) (some (.int r), gm Mz) := by
  obtain ⟨d, rfl⟩ : ∃ d0, d = d0 + 1 := ⟨d - 1, by omega⟩
  refine Ex.of okm_1134 (by omega) (Nat.le_of_ble_eq_true rfl) ?_
  show Rc (d + 1) 1134 (0, [.ref 0, .int x1, .int x2], [], gm M) _
  unfold qfr_look at hs
  refine Rc.goL mt_1134 3 (f2 := (6, [.ref 0, .int x1, .int x2], [.int x2, .int x1, .ref 210], gm M)) (b := true) rfl rfl ?_
  obtain ⟨r1, M2, he3, hs⟩ := ob_some hs
  refine Rc.callV (i := 265) (mid' := 205) (av := [.int x1, .int x2]) (rest := []) (v := some (.int r1)) (M1 := gm M2) (a := 210) rfl rfl rfl cw_205 rfl (Nat.le_of_ble_eq_true rfl) rfl (Nat.le_of_ble_eq_true rfl) (qen_at_ok _ (by omega) he3) ?_
  obtain ⟨e1, e2⟩ := some_p hs; subst e1; subst e2
  exact Rc.ret (v := some (.int r1)) rfl rfl
def qfr_countOf (x1 : Int32) (M : SM) : Option (Int32 × SM) :=
  jn (fun (x1_1 : Int32) (M2 : SM) =>
    jn (fun (t3 : Option Nat) (M4 : SM) =>
        om t3 (
          some ((-1 : Int32), M4)) (fun s5 =>
          ck (kc 336 s5 8 && true) (
            some ((M4.1 s5 3), M4)))) (fun j7 =>
      if x1_1 < (40 : Int32) then
      (j7 none M2) else
      (ob (qpr_listAt (x1_1 - (40 : Int32)) M2) (fun r8 M9 =>
        j7 r8 M9)))) (fun j12 =>
  if x1 < (20 : Int32) then
  (j12 x1 M) else
  (if x1 < (40 : Int32) then
    (ob (qtn_holderAt (x1 - (20 : Int32)) (M.1 179 0) M) (fun r13 M14 =>
      some (r13, M14))) else
    (j12 x1 M)))
theorem mt_1136 : MT 1136 K_1136 LN_11 := ⟨rfl, rfl, by decide +kernel⟩
theorem okm_1136 : OKm 1136 := ⟨⟨vE_1136, okL_11, by decide +kernel⟩, by decide +kernel, by decide +kernel, by decide +kernel⟩
set_option maxRecDepth 20000 in
theorem qfr_countOf_ok (d : Nat) (hd : 3 ≤ d) {x1 : Int32} {M : SM} {r : Int32} {Mz : SM} (hs : qfr_countOf x1 M = some (r, Mz)) : Ex d 1136 [.ref 0, .int x1] (gm M) (some (.int r), gm Mz) := by
  obtain ⟨d, rfl⟩ : ∃ d0, d = d0 + 1 := ⟨d - 1, by omega⟩
  refine Ex.of okm_1136 (by omega) (Nat.le_of_ble_eq_true rfl) ?_
  show Rc (d + 1) 1136 (0, [.ref 0, .int x1, UU], [], gm M) _
  unfold qfr_countOf at hs
  refine jn_e (P := fun (j : Int32 → SM → Option (Int32 × SM)) => ∀ (x1_1 : Int32) (M2 : SM) (r : Int32) (Mz : SM), j x1_1 M2 = some (r, Mz) → Rc (d + 1) 1136 (31, [.ref 0, .int x1_1, UU], [], gm M2) (some (.int r), gm Mz)) hs ?_ (fun j12 Hj12 hs => ?_)
  · intro x1_1 M2 r Mz hs
    try dsimp only at hs
    refine jn_e (P := fun (j : Option Nat → SM → Option (Int32 × SM)) => ∀ (t3 : Option Nat) (M4 : SM) (r : Int32) (Mz : SM), j t3 M4 = some (r, Mz) → Rc (d + 1) 1136 (52, [UU, UU, UU], [rv t3], gm M4) (some (.int r), gm Mz)) hs ?_ (fun j7 Hj7 hs => ?_)
    · intro t3 M4 r Mz hs
      try dsimp only at hs
      cases t3 with
      | none =>
        have hs := om_none hs
        refine Rc.goL mt_1136 2 (f2 := (57, [UU, UU, .null], [], gm M4)) (b := true) rfl rfl ?_
        refine Rc.goL mt_1136 1 (f2 := (65, [UU, UU, .null], [.int (-1 : Int32)], gm M4)) (b := true) rfl rfl ?_
        obtain ⟨e1, e2⟩ := some_p hs; subst e1; subst e2
        exact Rc.ret (v := some (.int (-1 : Int32))) rfl rfl
      | some s5 =>
        have hs := om_some hs
        refine Rc.goL mt_1136 2 (f2 := (61, [UU, UU, .ref s5], [], gm M4)) (b := true) rfl rfl ?_
        obtain ⟨hb6, hs⟩ := ck_some hs
        refine Rc.goL mt_1136 1 (f2 := (65, [UU, UU, .ref s5], [.int (M4.1 s5 3)], gm M4)) (b := (kc 336 s5 8 && true)) rfl hb6 ?_
        obtain ⟨e1, e2⟩ := some_p hs; subst e1; subst e2
        exact Rc.ret (v := some (.int (M4.1 s5 3))) rfl rfl
    by_cases h11 : x1_1 < (40 : Int32)
    · rw [if_pos h11] at hs
      refine Rc.goL mt_1136 2 (f2 := (if x1_1 < (40 : Int32) then 37 else 41, [.ref 0, .int x1_1, UU], [], gm M2)) (b := true) rfl rfl ?_
      rw [if_pos h11]
      refine Rc.goL mt_1136 1 (f2 := (52, [.ref 0, .int x1_1, UU], [.null], gm M2)) (b := true) rfl rfl ?_
      refine Rc.less (ls2 := [UU, UU, UU]) (by refine ⟨Or.inl rfl, Or.inl rfl, Or.inl rfl, trivial⟩) ?_
      exact Hj7 none _ _ _ hs
    · rw [if_neg h11] at hs
      refine Rc.goL mt_1136 2 (f2 := (if x1_1 < (40 : Int32) then 37 else 41, [.ref 0, .int x1_1, UU], [], gm M2)) (b := true) rfl rfl ?_
      rw [if_neg h11]
      refine Rc.goL mt_1136 4 (f2 := (49, [.ref 0, .int x1_1, UU], [.int (x1_1 - (40 : Int32)), .ref 12], gm M2)) (b := true) rfl rfl ?_
      obtain ⟨r8, M9, he10, hs⟩ := ob_some hs
      refine Rc.callV (i := 172) (mid' := 605) (av := [.int (x1_1 - (40 : Int32))]) (rest := []) (v := some (rv r8)) (M1 := gm M9) (a := 12) rfl rfl rfl cw_605 rfl (Nat.le_of_ble_eq_true rfl) rfl (Nat.le_of_ble_eq_true rfl) (qpr_listAt_ok _ (by omega) he10) ?_
      refine Rc.less (ls2 := [UU, UU, UU]) (by refine ⟨Or.inl rfl, Or.inl rfl, Or.inl rfl, trivial⟩) ?_
      exact Hj7 r8 _ _ _ hs
  by_cases h17 : x1 < (20 : Int32)
  · rw [if_pos h17] at hs
    refine Rc.goL mt_1136 2 (f2 := (if x1 < (20 : Int32) then 31 else 6, [.ref 0, .int x1, UU], [], gm M)) (b := true) rfl rfl ?_
    rw [if_pos h17]
    refine Rc.less (ls2 := [.ref 0, .int x1, UU]) (by refine ⟨Or.inr rfl, Or.inr rfl, Or.inl rfl, trivial⟩) ?_
    exact Hj12 x1 _ _ _ hs
  · rw [if_neg h17] at hs
    refine Rc.goL mt_1136 2 (f2 := (if x1 < (20 : Int32) then 31 else 6, [.ref 0, .int x1, UU], [], gm M)) (b := true) rfl rfl ?_
    rw [if_neg h17]
    by_cases h16 : x1 < (40 : Int32)
    · rw [if_pos h16] at hs
      refine Rc.goL mt_1136 2 (f2 := (if x1 < (40 : Int32) then 12 else 31, [.ref 0, .int x1, UU], [], gm M)) (b := true) rfl rfl ?_
      rw [if_pos h16]
      refine Rc.goL mt_1136 6 (f2 := (24, [.ref 0, .int x1, UU], [.ref 179, .int (x1 - (20 : Int32)), .ref 179], gm M)) (b := true) rfl rfl ?_
      refine Rc.goL mt_1136 0 (f2 := (27, [.ref 0, .int x1, UU], [.int (M.1 179 0), .int (x1 - (20 : Int32)), .ref 179], gm M)) (b := true) rfl rfl ?_
      obtain ⟨r13, M14, he15, hs⟩ := ob_some hs
      refine Rc.callV (i := 119) (mid' := 1014) (av := [.int (x1 - (20 : Int32)), .int (M.1 179 0)]) (rest := []) (v := some (.int r13)) (M1 := gm M14) (a := 179) rfl rfl rfl cw_1014 rfl (Nat.le_of_ble_eq_true rfl) rfl (Nat.le_of_ble_eq_true rfl) (qtn_holderAt_ok _ (by omega) he15) ?_
      obtain ⟨e1, e2⟩ := some_p hs; subst e1; subst e2
      exact Rc.ret (v := some (.int r13)) rfl rfl
    · rw [if_neg h16] at hs
      refine Rc.goL mt_1136 2 (f2 := (if x1 < (40 : Int32) then 12 else 31, [.ref 0, .int x1, UU], [], gm M)) (b := true) rfl rfl ?_
      rw [if_neg h16]
      refine Rc.less (ls2 := [.ref 0, .int x1, UU]) (by refine ⟨Or.inr rfl, Or.inr rfl, Or.inl rfl, trivial⟩) ?_
      exact Hj12 x1 _ _ _ hs
def qfr_count (x1 : Int32) (M : SM) : Option (Int32 × SM) :=
  if x1 = (0 : Int32) then
  (some ((M.1 179 0), M)) else
  (if x1 = (1 : Int32) then
  (some ((M.1 179 1), M)) else
  (if x1 = (2 : Int32) then
  (some ((M.1 179 2), M)) else
  (if x1 = (3 : Int32) then
  (some ((M.1 179 3), M)) else
  (if x1 = (4 : Int32) then
  (some ((M.1 12 2), M)) else
  (if x1 = (5 : Int32) then
  (some ((M.1 12 3), M)) else
  (if x1 = (6 : Int32) then
  (some ((M.1 210 0), M)) else
  (if x1 = (7 : Int32) then
  (some ((M.1 270 0), M)) else
  (if x1 = (8 : Int32) then
  (some ((M.1 278 0), M)) else
  (if x1 = (9 : Int32) then
  (ob (qfu_strikers M) (fun r10 M11 =>
    some (r10, M11))) else
  (if x1 = (10 : Int32) then
  (some ((M.1 1 1), M)) else
  (if x1 = (11 : Int32) then
  (some ((M.1 238 0), M)) else
  (ob (qfr_countOf x1 M) (fun r16 M17 =>
    some (r16, M17))))))))))))))
theorem mt_1135 : MT 1135 K_1135 LN_11 := ⟨rfl, rfl, by decide +kernel⟩
theorem okm_1135 : OKm 1135 := ⟨⟨vE_1135, okL_11, by decide +kernel⟩, by decide +kernel, by decide +kernel, by decide +kernel⟩
set_option maxRecDepth 20000 in
theorem qfr_count_ok (d : Nat) (hd : 4 ≤ d) {x1 : Int32} {M : SM} {r : Int32} {Mz : SM} (hs : qfr_count x1 M = some (r, Mz)) : Ex d 1135 [.ref 0, .int x1] (gm M) (some (.int r), gm Mz) := by
  obtain ⟨d, rfl⟩ : ∃ d0, d = d0 + 1 := ⟨d - 1, by omega⟩
  refine Ex.of okm_1135 (by omega) (Nat.le_of_ble_eq_true rfl) ?_
  show Rc (d + 1) 1135 (0, [.ref 0, .int x1], [], gm M) _
  unfold qfr_count at hs
  refine Rc.goL mt_1135 1 (f2 := (swl [(0, 64), (1, 72), (2, 80), (3, 88), (4, 96), (5, 104), (6, 112), (7, 120), (8, 128), (9, 136), (10, 144), (11, 152)] 160 x1, [.ref 0, .int x1], [], gm M)) (b := true) rfl rfl ?_
  by_cases h1 : x1 = (0 : Int32)
  · rw [if_pos h1] at hs
    rw [show swl [(0, 64), (1, 72), (2, 80), (3, 88), (4, 96), (5, 104), (6, 112), (7, 120), (8, 128), (9, 136), (10, 144), (11, 152)] 160 x1 = 64 by first | (simp only [swl, if_pos h1]; done) | (rw [h1]; decide)]
    refine Rc.goL mt_1135 2 (f2 := (71, [.ref 0, .int x1], [.int (M.1 179 0)], gm M)) (b := true) rfl rfl ?_
    obtain ⟨e1, e2⟩ := some_p hs; subst e1; subst e2
    exact Rc.ret (v := some (.int (M.1 179 0))) rfl rfl
  · rw [if_neg h1] at hs
    by_cases h2 : x1 = (1 : Int32)
    · rw [if_pos h2] at hs
      rw [show swl [(0, 64), (1, 72), (2, 80), (3, 88), (4, 96), (5, 104), (6, 112), (7, 120), (8, 128), (9, 136), (10, 144), (11, 152)] 160 x1 = 72 by first | (simp only [swl, if_pos h2]; done) | (rw [h2]; decide)]
      refine Rc.goL mt_1135 2 (f2 := (79, [.ref 0, .int x1], [.int (M.1 179 1)], gm M)) (b := true) rfl rfl ?_
      obtain ⟨e1, e2⟩ := some_p hs; subst e1; subst e2
      exact Rc.ret (v := some (.int (M.1 179 1))) rfl rfl
    · rw [if_neg h2] at hs
      by_cases h3 : x1 = (2 : Int32)
      · rw [if_pos h3] at hs
        rw [show swl [(0, 64), (1, 72), (2, 80), (3, 88), (4, 96), (5, 104), (6, 112), (7, 120), (8, 128), (9, 136), (10, 144), (11, 152)] 160 x1 = 80 by first | (simp only [swl, if_pos h3]; done) | (rw [h3]; decide)]
        refine Rc.goL mt_1135 2 (f2 := (87, [.ref 0, .int x1], [.int (M.1 179 2)], gm M)) (b := true) rfl rfl ?_
        obtain ⟨e1, e2⟩ := some_p hs; subst e1; subst e2
        exact Rc.ret (v := some (.int (M.1 179 2))) rfl rfl
      · rw [if_neg h3] at hs
        by_cases h4 : x1 = (3 : Int32)
        · rw [if_pos h4] at hs
          rw [show swl [(0, 64), (1, 72), (2, 80), (3, 88), (4, 96), (5, 104), (6, 112), (7, 120), (8, 128), (9, 136), (10, 144), (11, 152)] 160 x1 = 88 by first | (simp only [swl, if_pos h4]; done) | (rw [h4]; decide)]
          refine Rc.goL mt_1135 2 (f2 := (95, [.ref 0, .int x1], [.int (M.1 179 3)], gm M)) (b := true) rfl rfl ?_
          obtain ⟨e1, e2⟩ := some_p hs; subst e1; subst e2
          exact Rc.ret (v := some (.int (M.1 179 3))) rfl rfl
        · rw [if_neg h4] at hs
          by_cases h5 : x1 = (4 : Int32)
          · rw [if_pos h5] at hs
            rw [show swl [(0, 64), (1, 72), (2, 80), (3, 88), (4, 96), (5, 104), (6, 112), (7, 120), (8, 128), (9, 136), (10, 144), (11, 152)] 160 x1 = 96 by first | (simp only [swl, if_pos h5]; done) | (rw [h5]; decide)]
            refine Rc.goL mt_1135 2 (f2 := (103, [.ref 0, .int x1], [.int (M.1 12 2)], gm M)) (b := true) rfl rfl ?_
            obtain ⟨e1, e2⟩ := some_p hs; subst e1; subst e2
            exact Rc.ret (v := some (.int (M.1 12 2))) rfl rfl
          · rw [if_neg h5] at hs
            by_cases h6 : x1 = (5 : Int32)
            · rw [if_pos h6] at hs
              rw [show swl [(0, 64), (1, 72), (2, 80), (3, 88), (4, 96), (5, 104), (6, 112), (7, 120), (8, 128), (9, 136), (10, 144), (11, 152)] 160 x1 = 104 by first | (simp only [swl, if_pos h6]; done) | (rw [h6]; decide)]
              refine Rc.goL mt_1135 2 (f2 := (111, [.ref 0, .int x1], [.int (M.1 12 3)], gm M)) (b := true) rfl rfl ?_
              obtain ⟨e1, e2⟩ := some_p hs; subst e1; subst e2
              exact Rc.ret (v := some (.int (M.1 12 3))) rfl rfl
            · rw [if_neg h6] at hs
              by_cases h7 : x1 = (6 : Int32)
              · rw [if_pos h7] at hs
                rw [show swl [(0, 64), (1, 72), (2, 80), (3, 88), (4, 96), (5, 104), (6, 112), (7, 120), (8, 128), (9, 136), (10, 144), (11, 152)] 160 x1 = 112 by first | (simp only [swl, if_pos h7]; done) | (rw [h7]; decide)]
                refine Rc.goL mt_1135 2 (f2 := (119, [.ref 0, .int x1], [.int (M.1 210 0)], gm M)) (b := true) rfl rfl ?_
                obtain ⟨e1, e2⟩ := some_p hs; subst e1; subst e2
                exact Rc.ret (v := some (.int (M.1 210 0))) rfl rfl
              · rw [if_neg h7] at hs
                by_cases h8 : x1 = (7 : Int32)
                · rw [if_pos h8] at hs
                  rw [show swl [(0, 64), (1, 72), (2, 80), (3, 88), (4, 96), (5, 104), (6, 112), (7, 120), (8, 128), (9, 136), (10, 144), (11, 152)] 160 x1 = 120 by first | (simp only [swl, if_pos h8]; done) | (rw [h8]; decide)]
                  refine Rc.goL mt_1135 2 (f2 := (127, [.ref 0, .int x1], [.int (M.1 270 0)], gm M)) (b := true) rfl rfl ?_
                  obtain ⟨e1, e2⟩ := some_p hs; subst e1; subst e2
                  exact Rc.ret (v := some (.int (M.1 270 0))) rfl rfl
                · rw [if_neg h8] at hs
                  by_cases h9 : x1 = (8 : Int32)
                  · rw [if_pos h9] at hs
                    rw [show swl [(0, 64), (1, 72), (2, 80), (3, 88), (4, 96), (5, 104), (6, 112), (7, 120), (8, 128), (9, 136), (10, 144), (11, 152)] 160 x1 = 128 by first | (simp only [swl, if_pos h9]; done) | (rw [h9]; decide)]
                    refine Rc.goL mt_1135 2 (f2 := (135, [.ref 0, .int x1], [.int (M.1 278 0)], gm M)) (b := true) rfl rfl ?_
                    obtain ⟨e1, e2⟩ := some_p hs; subst e1; subst e2
                    exact Rc.ret (v := some (.int (M.1 278 0))) rfl rfl
                  · rw [if_neg h9] at hs
                    by_cases h13 : x1 = (9 : Int32)
                    · rw [if_pos h13] at hs
                      rw [show swl [(0, 64), (1, 72), (2, 80), (3, 88), (4, 96), (5, 104), (6, 112), (7, 120), (8, 128), (9, 136), (10, 144), (11, 152)] 160 x1 = 136 by first | (simp only [swl, if_pos h13]; done) | (rw [h13]; decide)]
                      refine Rc.goL mt_1135 1 (f2 := (140, [.ref 0, .int x1], [.ref 278], gm M)) (b := true) rfl rfl ?_
                      obtain ⟨r10, M11, he12, hs⟩ := ob_some hs
                      refine Rc.callV (i := 378) (mid' := 304) (av := []) (rest := []) (v := some (.int r10)) (M1 := gm M11) (a := 278) rfl rfl rfl cw_304 rfl (Nat.le_of_ble_eq_true rfl) rfl (Nat.le_of_ble_eq_true rfl) (qfu_strikers_ok _ (by omega) he12) ?_
                      obtain ⟨e1, e2⟩ := some_p hs; subst e1; subst e2
                      exact Rc.ret (v := some (.int r10)) rfl rfl
                    · rw [if_neg h13] at hs
                      by_cases h14 : x1 = (10 : Int32)
                      · rw [if_pos h14] at hs
                        rw [show swl [(0, 64), (1, 72), (2, 80), (3, 88), (4, 96), (5, 104), (6, 112), (7, 120), (8, 128), (9, 136), (10, 144), (11, 152)] 160 x1 = 144 by first | (simp only [swl, if_pos h14]; done) | (rw [h14]; decide)]
                        refine Rc.goL mt_1135 2 (f2 := (151, [.ref 0, .int x1], [.int (M.1 1 1)], gm M)) (b := true) rfl rfl ?_
                        obtain ⟨e1, e2⟩ := some_p hs; subst e1; subst e2
                        exact Rc.ret (v := some (.int (M.1 1 1))) rfl rfl
                      · rw [if_neg h14] at hs
                        by_cases h15 : x1 = (11 : Int32)
                        · rw [if_pos h15] at hs
                          rw [show swl [(0, 64), (1, 72), (2, 80), (3, 88), (4, 96), (5, 104), (6, 112), (7, 120), (8, 128), (9, 136), (10, 144), (11, 152)] 160 x1 = 152 by first | (simp only [swl, if_pos h15]; done) | (rw [h15]; decide)]
                          refine Rc.goL mt_1135 2 (f2 := (159, [.ref 0, .int x1], [.int (M.1 238 0)], gm M)) (b := true) rfl rfl ?_
                          obtain ⟨e1, e2⟩ := some_p hs; subst e1; subst e2
                          exact Rc.ret (v := some (.int (M.1 238 0))) rfl rfl
                        · rw [if_neg h15] at hs
                          rw [show swl [(0, 64), (1, 72), (2, 80), (3, 88), (4, 96), (5, 104), (6, 112), (7, 120), (8, 128), (9, 136), (10, 144), (11, 152)] 160 x1 = 160 by simp only [swl, if_neg h1, if_neg h2, if_neg h3, if_neg h4, if_neg h5, if_neg h6, if_neg h7, if_neg h8, if_neg h9, if_neg h13, if_neg h14, if_neg h15]]
                          refine Rc.goL mt_1135 1 (f2 := (162, [.ref 0, .int x1], [.int x1, .ref 0], gm M)) (b := true) rfl rfl ?_
                          obtain ⟨r16, M17, he18, hs⟩ := ob_some hs
                          refine Rc.callV (i := 382) (mid' := 1136) (av := [.int x1]) (rest := []) (v := some (.int r16)) (M1 := gm M17) (a := 0) rfl rfl rfl cw_1136 rfl (Nat.le_of_ble_eq_true rfl) rfl (Nat.le_of_ble_eq_true rfl) (qfr_countOf_ok _ (by omega) he18) ?_
                          obtain ⟨e1, e2⟩ := some_p hs; subst e1; subst e2
                          exact Rc.ret (v := some (.int r16)) rfl rfl
def qmd_in (x0 : Int32) (x1 : Int32) (x2 : Int32) (M : SM) : Option (Int32 × SM) :=
  if x0 < x1 then
  (some ((0 : Int32), M)) else
  (if x2 < x0 then
    (some ((0 : Int32), M)) else
    (some ((1 : Int32), M)))
theorem mt_1201 : MT 1201 K_1201 LN_12 := ⟨rfl, rfl, by decide +kernel⟩
theorem okm_1201 : OKm 1201 := ⟨⟨vE_1201, okL_12, by decide +kernel⟩, by decide +kernel, by decide +kernel, by decide +kernel⟩
set_option maxRecDepth 20000 in
theorem qmd_in_ok (d : Nat) (hd : 1 ≤ d) {x0 : Int32} {x1 : Int32} {x2 : Int32} {M : SM} {r : Int32} {Mz : SM} (hs : qmd_in x0 x1 x2 M = some (r, Mz)) : Ex d 1201 [.int x0, .int x1, .int x2] (gm M) (some (.int r), gm Mz) := by
  obtain ⟨d, rfl⟩ : ∃ d0, d = d0 + 1 := ⟨d - 1, by omega⟩
  refine Ex.of okm_1201 (by omega) (Nat.le_of_ble_eq_true rfl) ?_
  show Rc (d + 1) 1201 (0, [.int x0, .int x1, .int x2], [], gm M) _
  unfold qmd_in at hs
  by_cases h2 : x0 < x1
  · rw [if_pos h2] at hs
    refine Rc.goL mt_1201 2 (f2 := (if x0 < x1 then 14 else 5, [.int x0, .int x1, .int x2], [], gm M)) (b := true) rfl rfl ?_
    rw [if_pos h2]
    refine Rc.goL mt_1201 0 (f2 := (15, [.int x0, .int x1, .int x2], [.int (0 : Int32)], gm M)) (b := true) rfl rfl ?_
    obtain ⟨e1, e2⟩ := some_p hs; subst e1; subst e2
    exact Rc.ret (v := some (.int (0 : Int32))) rfl rfl
  · rw [if_neg h2] at hs
    refine Rc.goL mt_1201 2 (f2 := (if x0 < x1 then 14 else 5, [.int x0, .int x1, .int x2], [], gm M)) (b := true) rfl rfl ?_
    rw [if_neg h2]
    by_cases h1 : x2 < x0
    · rw [if_pos h1] at hs
      refine Rc.goL mt_1201 2 (f2 := (if x2 < x0 then 14 else 10, [.int x0, .int x1, .int x2], [], gm M)) (b := true) rfl rfl ?_
      rw [if_pos h1]
      refine Rc.goL mt_1201 0 (f2 := (15, [.int x0, .int x1, .int x2], [.int (0 : Int32)], gm M)) (b := true) rfl rfl ?_
      obtain ⟨e1, e2⟩ := some_p hs; subst e1; subst e2
      exact Rc.ret (v := some (.int (0 : Int32))) rfl rfl
    · rw [if_neg h1] at hs
      refine Rc.goL mt_1201 2 (f2 := (if x2 < x0 then 14 else 10, [.int x0, .int x1, .int x2], [], gm M)) (b := true) rfl rfl ?_
      rw [if_neg h1]
      refine Rc.goL mt_1201 1 (f2 := (15, [.int x0, .int x1, .int x2], [.int (1 : Int32)], gm M)) (b := true) rfl rfl ?_
      obtain ⟨e1, e2⟩ := some_p hs; subst e1; subst e2
      exact Rc.ret (v := some (.int (1 : Int32))) rfl rfl
def qmd_isMaster (x1 : Int32) (M : SM) : Option (Int32 × SM) :=
  if x1 < 0 then
  (some ((0 : Int32), M)) else
  (if x1 < (M.1 280 1) then
    (some ((1 : Int32), M)) else
    (some ((0 : Int32), M)))
theorem mt_1202 : MT 1202 K_1202 LN_12 := ⟨rfl, rfl, by decide +kernel⟩
theorem okm_1202 : OKm 1202 := ⟨⟨vE_1202, okL_12, by decide +kernel⟩, by decide +kernel, by decide +kernel, by decide +kernel⟩
set_option maxRecDepth 20000 in
theorem qmd_isMaster_ok (d : Nat) (hd : 1 ≤ d) {x1 : Int32} {M : SM} {r : Int32} {Mz : SM} (hs : qmd_isMaster x1 M = some (r, Mz)) : Ex d 1202 [.ref 280, .int x1] (gm M) (some (.int r), gm Mz) := by
  obtain ⟨d, rfl⟩ : ∃ d0, d = d0 + 1 := ⟨d - 1, by omega⟩
  refine Ex.of okm_1202 (by omega) (Nat.le_of_ble_eq_true rfl) ?_
  show Rc (d + 1) 1202 (0, [.ref 280, .int x1], [], gm M) _
  unfold qmd_isMaster at hs
  by_cases h2 : x1 < 0
  · rw [if_pos h2] at hs
    refine Rc.goL mt_1202 1 (f2 := (if x1 < 0 then 16 else 4, [.ref 280, .int x1], [], gm M)) (b := true) rfl rfl ?_
    rw [if_pos h2]
    refine Rc.goL mt_1202 0 (f2 := (17, [.ref 280, .int x1], [.int (0 : Int32)], gm M)) (b := true) rfl rfl ?_
    obtain ⟨e1, e2⟩ := some_p hs; subst e1; subst e2
    exact Rc.ret (v := some (.int (0 : Int32))) rfl rfl
  · rw [if_neg h2] at hs
    refine Rc.goL mt_1202 1 (f2 := (if x1 < 0 then 16 else 4, [.ref 280, .int x1], [], gm M)) (b := true) rfl rfl ?_
    rw [if_neg h2]
    by_cases h1 : x1 < (M.1 280 1)
    · rw [if_pos h1] at hs
      refine Rc.goL mt_1202 3 (f2 := (if x1 < (M.1 280 1) then 12 else 16, [.ref 280, .int x1], [], gm M)) (b := true) rfl rfl ?_
      rw [if_pos h1]
      refine Rc.goL mt_1202 1 (f2 := (17, [.ref 280, .int x1], [.int (1 : Int32)], gm M)) (b := true) rfl rfl ?_
      obtain ⟨e1, e2⟩ := some_p hs; subst e1; subst e2
      exact Rc.ret (v := some (.int (1 : Int32))) rfl rfl
    · rw [if_neg h1] at hs
      refine Rc.goL mt_1202 3 (f2 := (if x1 < (M.1 280 1) then 12 else 16, [.ref 280, .int x1], [], gm M)) (b := true) rfl rfl ?_
      rw [if_neg h1]
      refine Rc.goL mt_1202 0 (f2 := (17, [.ref 280, .int x1], [.int (0 : Int32)], gm M)) (b := true) rfl rfl ?_
      obtain ⟨e1, e2⟩ := some_p hs; subst e1; subst e2
      exact Rc.ret (v := some (.int (0 : Int32))) rfl rfl
def qmd_isKnitter (x1 : Int32) (M : SM) : Option (Int32 × SM) :=
  if x1 < 0 then
  (some ((0 : Int32), M)) else
  (if x1 < (M.1 280 2) then
    (some ((1 : Int32), M)) else
    (some ((0 : Int32), M)))
theorem mt_1203 : MT 1203 K_1203 LN_12 := ⟨rfl, rfl, by decide +kernel⟩
theorem okm_1203 : OKm 1203 := ⟨⟨vE_1203, okL_12, by decide +kernel⟩, by decide +kernel, by decide +kernel, by decide +kernel⟩
set_option maxRecDepth 20000 in
theorem qmd_isKnitter_ok (d : Nat) (hd : 1 ≤ d) {x1 : Int32} {M : SM} {r : Int32} {Mz : SM} (hs : qmd_isKnitter x1 M = some (r, Mz)) : Ex d 1203 [.ref 280, .int x1] (gm M) (some (.int r), gm Mz) := by
  obtain ⟨d, rfl⟩ : ∃ d0, d = d0 + 1 := ⟨d - 1, by omega⟩
  refine Ex.of okm_1203 (by omega) (Nat.le_of_ble_eq_true rfl) ?_
  show Rc (d + 1) 1203 (0, [.ref 280, .int x1], [], gm M) _
  unfold qmd_isKnitter at hs
  by_cases h2 : x1 < 0
  · rw [if_pos h2] at hs
    refine Rc.goL mt_1203 1 (f2 := (if x1 < 0 then 16 else 4, [.ref 280, .int x1], [], gm M)) (b := true) rfl rfl ?_
    rw [if_pos h2]
    refine Rc.goL mt_1203 0 (f2 := (17, [.ref 280, .int x1], [.int (0 : Int32)], gm M)) (b := true) rfl rfl ?_
    obtain ⟨e1, e2⟩ := some_p hs; subst e1; subst e2
    exact Rc.ret (v := some (.int (0 : Int32))) rfl rfl
  · rw [if_neg h2] at hs
    refine Rc.goL mt_1203 1 (f2 := (if x1 < 0 then 16 else 4, [.ref 280, .int x1], [], gm M)) (b := true) rfl rfl ?_
    rw [if_neg h2]
    by_cases h1 : x1 < (M.1 280 2)
    · rw [if_pos h1] at hs
      refine Rc.goL mt_1203 3 (f2 := (if x1 < (M.1 280 2) then 12 else 16, [.ref 280, .int x1], [], gm M)) (b := true) rfl rfl ?_
      rw [if_pos h1]
      refine Rc.goL mt_1203 1 (f2 := (17, [.ref 280, .int x1], [.int (1 : Int32)], gm M)) (b := true) rfl rfl ?_
      obtain ⟨e1, e2⟩ := some_p hs; subst e1; subst e2
      exact Rc.ret (v := some (.int (1 : Int32))) rfl rfl
    · rw [if_neg h1] at hs
      refine Rc.goL mt_1203 3 (f2 := (if x1 < (M.1 280 2) then 12 else 16, [.ref 280, .int x1], [], gm M)) (b := true) rfl rfl ?_
      rw [if_neg h1]
      refine Rc.goL mt_1203 0 (f2 := (17, [.ref 280, .int x1], [.int (0 : Int32)], gm M)) (b := true) rfl rfl ?_
      obtain ⟨e1, e2⟩ := some_p hs; subst e1; subst e2
      exact Rc.ret (v := some (.int (0 : Int32))) rfl rfl
def qmd_isFrame (x1 : Int32) (M : SM) : Option (Int32 × SM) :=
  if x1 < 0 then
  (some ((0 : Int32), M)) else
  (if x1 < (M.1 280 3) then
    (some ((1 : Int32), M)) else
    (some ((0 : Int32), M)))
theorem mt_1204 : MT 1204 K_1204 LN_12 := ⟨rfl, rfl, by decide +kernel⟩
theorem okm_1204 : OKm 1204 := ⟨⟨vE_1204, okL_12, by decide +kernel⟩, by decide +kernel, by decide +kernel, by decide +kernel⟩
set_option maxRecDepth 20000 in
theorem qmd_isFrame_ok (d : Nat) (hd : 1 ≤ d) {x1 : Int32} {M : SM} {r : Int32} {Mz : SM} (hs : qmd_isFrame x1 M = some (r, Mz)) : Ex d 1204 [.ref 280, .int x1] (gm M) (some (.int r), gm Mz) := by
  obtain ⟨d, rfl⟩ : ∃ d0, d = d0 + 1 := ⟨d - 1, by omega⟩
  refine Ex.of okm_1204 (by omega) (Nat.le_of_ble_eq_true rfl) ?_
  show Rc (d + 1) 1204 (0, [.ref 280, .int x1], [], gm M) _
  unfold qmd_isFrame at hs
  by_cases h2 : x1 < 0
  · rw [if_pos h2] at hs
    refine Rc.goL mt_1204 1 (f2 := (if x1 < 0 then 16 else 4, [.ref 280, .int x1], [], gm M)) (b := true) rfl rfl ?_
    rw [if_pos h2]
    refine Rc.goL mt_1204 0 (f2 := (17, [.ref 280, .int x1], [.int (0 : Int32)], gm M)) (b := true) rfl rfl ?_
    obtain ⟨e1, e2⟩ := some_p hs; subst e1; subst e2
    exact Rc.ret (v := some (.int (0 : Int32))) rfl rfl
  · rw [if_neg h2] at hs
    refine Rc.goL mt_1204 1 (f2 := (if x1 < 0 then 16 else 4, [.ref 280, .int x1], [], gm M)) (b := true) rfl rfl ?_
    rw [if_neg h2]
    by_cases h1 : x1 < (M.1 280 3)
    · rw [if_pos h1] at hs
      refine Rc.goL mt_1204 3 (f2 := (if x1 < (M.1 280 3) then 12 else 16, [.ref 280, .int x1], [], gm M)) (b := true) rfl rfl ?_
      rw [if_pos h1]
      refine Rc.goL mt_1204 1 (f2 := (17, [.ref 280, .int x1], [.int (1 : Int32)], gm M)) (b := true) rfl rfl ?_
      obtain ⟨e1, e2⟩ := some_p hs; subst e1; subst e2
      exact Rc.ret (v := some (.int (1 : Int32))) rfl rfl
    · rw [if_neg h1] at hs
      refine Rc.goL mt_1204 3 (f2 := (if x1 < (M.1 280 3) then 12 else 16, [.ref 280, .int x1], [], gm M)) (b := true) rfl rfl ?_
      rw [if_neg h1]
      refine Rc.goL mt_1204 0 (f2 := (17, [.ref 280, .int x1], [.int (0 : Int32)], gm M)) (b := true) rfl rfl ?_
      obtain ⟨e1, e2⟩ := some_p hs; subst e1; subst e2
      exact Rc.ret (v := some (.int (0 : Int32))) rfl rfl
def qmd_isWeek (x0 : Int32) (M : SM) : Option (Int32 × SM) :=
  if x0 < 0 then
  (some ((0 : Int32), M)) else
  (if x0 < (520 : Int32) then
    (some ((1 : Int32), M)) else
    (some ((0 : Int32), M)))
theorem mt_1205 : MT 1205 K_1205 LN_12 := ⟨rfl, rfl, by decide +kernel⟩
theorem okm_1205 : OKm 1205 := ⟨⟨vE_1205, okL_12, by decide +kernel⟩, by decide +kernel, by decide +kernel, by decide +kernel⟩
set_option maxRecDepth 20000 in
theorem qmd_isWeek_ok (d : Nat) (hd : 1 ≤ d) {x0 : Int32} {M : SM} {r : Int32} {Mz : SM} (hs : qmd_isWeek x0 M = some (r, Mz)) : Ex d 1205 [.int x0] (gm M) (some (.int r), gm Mz) := by
  obtain ⟨d, rfl⟩ : ∃ d0, d = d0 + 1 := ⟨d - 1, by omega⟩
  refine Ex.of okm_1205 (by omega) (Nat.le_of_ble_eq_true rfl) ?_
  show Rc (d + 1) 1205 (0, [.int x0], [], gm M) _
  unfold qmd_isWeek at hs
  by_cases h2 : x0 < 0
  · rw [if_pos h2] at hs
    refine Rc.goL mt_1205 1 (f2 := (if x0 < 0 then 15 else 4, [.int x0], [], gm M)) (b := true) rfl rfl ?_
    rw [if_pos h2]
    refine Rc.goL mt_1205 0 (f2 := (16, [.int x0], [.int (0 : Int32)], gm M)) (b := true) rfl rfl ?_
    obtain ⟨e1, e2⟩ := some_p hs; subst e1; subst e2
    exact Rc.ret (v := some (.int (0 : Int32))) rfl rfl
  · rw [if_neg h2] at hs
    refine Rc.goL mt_1205 1 (f2 := (if x0 < 0 then 15 else 4, [.int x0], [], gm M)) (b := true) rfl rfl ?_
    rw [if_neg h2]
    by_cases h1 : x0 < (520 : Int32)
    · rw [if_pos h1] at hs
      refine Rc.goL mt_1205 2 (f2 := (if x0 < (520 : Int32) then 11 else 15, [.int x0], [], gm M)) (b := true) rfl rfl ?_
      rw [if_pos h1]
      refine Rc.goL mt_1205 1 (f2 := (16, [.int x0], [.int (1 : Int32)], gm M)) (b := true) rfl rfl ?_
      obtain ⟨e1, e2⟩ := some_p hs; subst e1; subst e2
      exact Rc.ret (v := some (.int (1 : Int32))) rfl rfl
    · rw [if_neg h1] at hs
      refine Rc.goL mt_1205 2 (f2 := (if x0 < (520 : Int32) then 11 else 15, [.int x0], [], gm M)) (b := true) rfl rfl ?_
      rw [if_neg h1]
      refine Rc.goL mt_1205 0 (f2 := (16, [.int x0], [.int (0 : Int32)], gm M)) (b := true) rfl rfl ?_
      obtain ⟨e1, e2⟩ := some_p hs; subst e1; subst e2
      exact Rc.ret (v := some (.int (0 : Int32))) rfl rfl
def qmd_master (x1 : Int32) (M : SM) : Option (Int32 × SM) :=
  jn (fun (x1_1 : Int32) (M2 : SM) =>
    if (M2.1 280 1) = (6 : Int32) then
      (some ((-1 : Int32), M2)) else
      (ck (ib 6 (M2.1 280 1) && true) (
        some ((((M2.1 280 1) + (1 : Int32)) - (1 : Int32)), (wI (wI M2 281 (Int32.toNatClampNeg (M2.1 280 1)) x1_1) 280 1 ((M2.1 280 1) + (1 : Int32))))))) (fun j5 =>
  if x1 = (-1 : Int32) then
  (j5 x1 M) else
  (ob (qmd_isMaster x1 M) (fun r6 M7 =>
    if r6 = 0 then
    (some ((-1 : Int32), M7)) else
    (ck (ib 6 x1 && true) (
      if (M7.1 281 (Int32.toNatClampNeg x1)) = (-1 : Int32) then
      (j5 x1 M7) else
      (some ((-1 : Int32), M7)))))))
theorem mt_1206 : MT 1206 K_1206 LN_12 := ⟨rfl, rfl, by decide +kernel⟩
theorem okm_1206 : OKm 1206 := ⟨⟨vE_1206, okL_12, by decide +kernel⟩, by decide +kernel, by decide +kernel, by decide +kernel⟩
set_option maxRecDepth 20000 in
theorem qmd_master_ok (d : Nat) (hd : 2 ≤ d) {x1 : Int32} {M : SM} {r : Int32} {Mz : SM} (hs : qmd_master x1 M = some (r, Mz)) : Ex d 1206 [.ref 280, .int x1] (gm M) (some (.int r), gm Mz) := by
  obtain ⟨d, rfl⟩ : ∃ d0, d = d0 + 1 := ⟨d - 1, by omega⟩
  refine Ex.of okm_1206 (by omega) (Nat.le_of_ble_eq_true rfl) ?_
  show Rc (d + 1) 1206 (0, [.ref 280, .int x1], [], gm M) _
  unfold qmd_master at hs
  refine jn_e (P := fun (j : Int32 → SM → Option (Int32 × SM)) => ∀ (x1_1 : Int32) (M2 : SM) (r : Int32) (Mz : SM), j x1_1 M2 = some (r, Mz) → Rc (d + 1) 1206 (23, [.ref 280, .int x1_1], [], gm M2) (some (.int r), gm Mz)) hs ?_ (fun j5 Hj5 hs => ?_)
  · intro x1_1 M2 r Mz hs
    try dsimp only at hs
    by_cases h4 : (M2.1 280 1) = (6 : Int32)
    · rw [if_pos h4] at hs
      refine Rc.goL mt_1206 3 (f2 := (if (M2.1 280 1) = (6 : Int32) then 32 else 34, [.ref 280, .int x1_1], [], gm M2)) (b := true) rfl rfl ?_
      rw [if_pos h4]
      refine Rc.goL mt_1206 0 (f2 := (33, [.ref 280, .int x1_1], [.int (-1 : Int32)], gm M2)) (b := true) rfl rfl ?_
      obtain ⟨e1, e2⟩ := some_p hs; subst e1; subst e2
      exact Rc.ret (v := some (.int (-1 : Int32))) rfl rfl
    · rw [if_neg h4] at hs
      refine Rc.goL mt_1206 3 (f2 := (if (M2.1 280 1) = (6 : Int32) then 32 else 34, [.ref 280, .int x1_1], [], gm M2)) (b := true) rfl rfl ?_
      rw [if_neg h4]
      obtain ⟨hb3, hs⟩ := ck_some hs
      obtain ⟨hb3_0, hb3⟩ := and_t hb3
      refine Rc.goL mt_1206 5 (f2 := (44, [.ref 280, .int x1_1], [], gm (wI M2 281 (Int32.toNatClampNeg (M2.1 280 1)) x1_1))) (b := (ib 6 (M2.1 280 1) && true)) rfl (and_i hb3_0 rfl) ?_
      refine Rc.goL mt_1206 5 (f2 := (54, [.ref 280, .int x1_1], [], gm (wI (wI M2 281 (Int32.toNatClampNeg (M2.1 280 1)) x1_1) 280 1 ((M2.1 280 1) + (1 : Int32))))) (b := true) rfl rfl ?_
      refine Rc.goL mt_1206 3 (f2 := (60, [.ref 280, .int x1_1], [.int (((M2.1 280 1) + (1 : Int32)) - (1 : Int32))], gm (wI (wI M2 281 (Int32.toNatClampNeg (M2.1 280 1)) x1_1) 280 1 ((M2.1 280 1) + (1 : Int32))))) (b := true) rfl rfl ?_
      obtain ⟨e1, e2⟩ := some_p hs; subst e1; subst e2
      exact Rc.ret (v := some (.int (((M2.1 280 1) + (1 : Int32)) - (1 : Int32)))) rfl rfl
  by_cases h12 : x1 = (-1 : Int32)
  · rw [if_pos h12] at hs
    refine Rc.goL mt_1206 2 (f2 := (if x1 = (-1 : Int32) then 23 else 5, [.ref 280, .int x1], [], gm M)) (b := true) rfl rfl ?_
    rw [if_pos h12]
    refine Rc.less (ls2 := [.ref 280, .int x1]) (by refine ⟨Or.inr rfl, Or.inr rfl, trivial⟩) ?_
    exact Hj5 x1 _ _ _ hs
  · rw [if_neg h12] at hs
    refine Rc.goL mt_1206 2 (f2 := (if x1 = (-1 : Int32) then 23 else 5, [.ref 280, .int x1], [], gm M)) (b := true) rfl rfl ?_
    rw [if_neg h12]
    refine Rc.goL mt_1206 1 (f2 := (7, [.ref 280, .int x1], [.int x1, .ref 280], gm M)) (b := true) rfl rfl ?_
    obtain ⟨r6, M7, he8, hs⟩ := ob_some hs
    refine Rc.callV (i := 191) (mid' := 1202) (av := [.int x1]) (rest := []) (v := some (.int r6)) (M1 := gm M7) (a := 280) rfl rfl rfl cw_1202 rfl (Nat.le_of_ble_eq_true rfl) rfl (Nat.le_of_ble_eq_true rfl) (qmd_isMaster_ok _ (by omega) he8) ?_
    by_cases h11 : r6 = 0
    · rw [if_pos h11] at hs
      refine Rc.goL mt_1206 0 (f2 := (if r6 = 0 then 32 else 13, [.ref 280, .int x1], [], gm M7)) (b := true) rfl rfl ?_
      rw [if_pos h11]
      refine Rc.goL mt_1206 0 (f2 := (33, [.ref 280, .int x1], [.int (-1 : Int32)], gm M7)) (b := true) rfl rfl ?_
      obtain ⟨e1, e2⟩ := some_p hs; subst e1; subst e2
      exact Rc.ret (v := some (.int (-1 : Int32))) rfl rfl
    · rw [if_neg h11] at hs
      refine Rc.goL mt_1206 0 (f2 := (if r6 = 0 then 32 else 13, [.ref 280, .int x1], [], gm M7)) (b := true) rfl rfl ?_
      rw [if_neg h11]
      obtain ⟨hb9, hs⟩ := ck_some hs
      by_cases h10 : (M7.1 281 (Int32.toNatClampNeg x1)) = (-1 : Int32)
      · rw [if_pos h10] at hs
        refine Rc.goL mt_1206 5 (f2 := (if (M7.1 281 (Int32.toNatClampNeg x1)) = (-1 : Int32) then 23 else 32, [.ref 280, .int x1], [], gm M7)) (b := (ib 6 x1 && true)) rfl hb9 ?_
        rw [if_pos h10]
        refine Rc.less (ls2 := [.ref 280, .int x1]) (by refine ⟨Or.inr rfl, Or.inr rfl, trivial⟩) ?_
        exact Hj5 x1 _ _ _ hs
      · rw [if_neg h10] at hs
        refine Rc.goL mt_1206 5 (f2 := (if (M7.1 281 (Int32.toNatClampNeg x1)) = (-1 : Int32) then 23 else 32, [.ref 280, .int x1], [], gm M7)) (b := (ib 6 x1 && true)) rfl hb9 ?_
        rw [if_neg h10]
        refine Rc.goL mt_1206 0 (f2 := (33, [.ref 280, .int x1], [.int (-1 : Int32)], gm M7)) (b := true) rfl rfl ?_
        obtain ⟨e1, e2⟩ := some_p hs; subst e1; subst e2
        exact Rc.ret (v := some (.int (-1 : Int32))) rfl rfl
def qmd_knitter (x1 : Int32) (M : SM) : Option (Int32 × SM) :=
  ob (qmd_in x1 (1 : Int32) (9 : Int32) M) (fun r1 M2 =>
  if r1 = 0 then
  (some ((-1 : Int32), M2)) else
  (if (M2.1 280 2) = (12 : Int32) then
    (some ((-1 : Int32), M2)) else
    (ck (ib 12 (M2.1 280 2) && true) (
      some ((((M2.1 280 2) + (1 : Int32)) - (1 : Int32)), (wI (wI M2 282 (Int32.toNatClampNeg (M2.1 280 2)) x1) 280 2 ((M2.1 280 2) + (1 : Int32))))))))
theorem mt_1207 : MT 1207 K_1207 LN_12 := ⟨rfl, rfl, by decide +kernel⟩
theorem okm_1207 : OKm 1207 := ⟨⟨vE_1207, okL_12, by decide +kernel⟩, by decide +kernel, by decide +kernel, by decide +kernel⟩
set_option maxRecDepth 20000 in
theorem qmd_knitter_ok (d : Nat) (hd : 2 ≤ d) {x1 : Int32} {M : SM} {r : Int32} {Mz : SM} (hs : qmd_knitter x1 M = some (r, Mz)) : Ex d 1207 [.ref 280, .int x1] (gm M) (some (.int r), gm Mz) := by
  obtain ⟨d, rfl⟩ : ∃ d0, d = d0 + 1 := ⟨d - 1, by omega⟩
  refine Ex.of okm_1207 (by omega) (Nat.le_of_ble_eq_true rfl) ?_
  show Rc (d + 1) 1207 (0, [.ref 280, .int x1], [], gm M) _
  unfold qmd_knitter at hs
  refine Rc.goL mt_1207 2 (f2 := (4, [.ref 280, .int x1], [.int (9 : Int32), .int (1 : Int32), .int x1], gm M)) (b := true) rfl rfl ?_
  obtain ⟨r1, M2, he3, hs⟩ := ob_some hs
  refine Rc.callS (i := 195) (mid' := 1201) (av := [.int x1, .int (1 : Int32), .int (9 : Int32)]) (rest := []) (v := some (.int r1)) (M1 := gm M2) rfl (Or.inl rfl) rfl cw_1201 rfl (Nat.le_of_ble_eq_true rfl) (qmd_in_ok _ (by omega) he3) ?_
  by_cases h6 : r1 = 0
  · rw [if_pos h6] at hs
    refine Rc.goL mt_1207 0 (f2 := (if r1 = 0 then 19 else 10, [.ref 280, .int x1], [], gm M2)) (b := true) rfl rfl ?_
    rw [if_pos h6]
    refine Rc.goL mt_1207 0 (f2 := (20, [.ref 280, .int x1], [.int (-1 : Int32)], gm M2)) (b := true) rfl rfl ?_
    obtain ⟨e1, e2⟩ := some_p hs; subst e1; subst e2
    exact Rc.ret (v := some (.int (-1 : Int32))) rfl rfl
  · rw [if_neg h6] at hs
    refine Rc.goL mt_1207 0 (f2 := (if r1 = 0 then 19 else 10, [.ref 280, .int x1], [], gm M2)) (b := true) rfl rfl ?_
    rw [if_neg h6]
    by_cases h5 : (M2.1 280 2) = (12 : Int32)
    · rw [if_pos h5] at hs
      refine Rc.goL mt_1207 3 (f2 := (if (M2.1 280 2) = (12 : Int32) then 19 else 21, [.ref 280, .int x1], [], gm M2)) (b := true) rfl rfl ?_
      rw [if_pos h5]
      refine Rc.goL mt_1207 0 (f2 := (20, [.ref 280, .int x1], [.int (-1 : Int32)], gm M2)) (b := true) rfl rfl ?_
      obtain ⟨e1, e2⟩ := some_p hs; subst e1; subst e2
      exact Rc.ret (v := some (.int (-1 : Int32))) rfl rfl
    · rw [if_neg h5] at hs
      refine Rc.goL mt_1207 3 (f2 := (if (M2.1 280 2) = (12 : Int32) then 19 else 21, [.ref 280, .int x1], [], gm M2)) (b := true) rfl rfl ?_
      rw [if_neg h5]
      obtain ⟨hb4, hs⟩ := ck_some hs
      obtain ⟨hb4_0, hb4⟩ := and_t hb4
      refine Rc.goL mt_1207 5 (f2 := (31, [.ref 280, .int x1], [], gm (wI M2 282 (Int32.toNatClampNeg (M2.1 280 2)) x1))) (b := (ib 12 (M2.1 280 2) && true)) rfl (and_i hb4_0 rfl) ?_
      refine Rc.goL mt_1207 5 (f2 := (41, [.ref 280, .int x1], [], gm (wI (wI M2 282 (Int32.toNatClampNeg (M2.1 280 2)) x1) 280 2 ((M2.1 280 2) + (1 : Int32))))) (b := true) rfl rfl ?_
      refine Rc.goL mt_1207 3 (f2 := (47, [.ref 280, .int x1], [.int (((M2.1 280 2) + (1 : Int32)) - (1 : Int32))], gm (wI (wI M2 282 (Int32.toNatClampNeg (M2.1 280 2)) x1) 280 2 ((M2.1 280 2) + (1 : Int32))))) (b := true) rfl rfl ?_
      obtain ⟨e1, e2⟩ := some_p hs; subst e1; subst e2
      exact Rc.ret (v := some (.int (((M2.1 280 2) + (1 : Int32)) - (1 : Int32)))) rfl rfl
def qmd_hires_L5 : Nat → Int32 → Int32 → Int32 → SM → Option (Unit × SM)
  | 0, _, _, _, _ => none
  | n + 1, x1, x2, x3, M =>
    if x3 < (520 : Int32) then
    (ck (ib 8320 (((520 : Int32) * x1) + x3) && true) (
      qmd_hires_L5 n x1 x2 (x3 + (1 : Int32)) (wI M 288 (Int32.toNatClampNeg (((520 : Int32) * x1) + x3)) x2))) else
    (some ((), M))
def qmd_hires (x1 : Int32) (x2 : Int32) (M : SM) : Option (Unit × SM) :=
  qmd_hires_L5 FU x1 x2 (M.1 280 0) M
theorem mt_1208 : MT 1208 K_1208 LN_12 := ⟨rfl, rfl, by decide +kernel⟩
theorem okm_1208 : OKm 1208 := ⟨⟨vE_1208, okL_12, by decide +kernel⟩, by decide +kernel, by decide +kernel, by decide +kernel⟩
set_option maxRecDepth 20000 in
theorem qmd_hires_L5_ok (d : Nat) (hd : 1 ≤ d + 1) : ∀ (n : Nat) (x1 : Int32) (x2 : Int32) (x3 : Int32) (M : SM) (r : Unit) (Mz : SM), qmd_hires_L5 n x1 x2 x3 M = some (r, Mz) → Rc (d + 1) 1208 (5, [.ref 280, .int x1, .int x2, .int x3], [], gm M) (none, gm Mz) := by
  intro n
  induction n with
  | zero => intro x1 x2 x3 M r Mz hs; cases hs
  | succ n ih =>
    intro x1 x2 x3 M r Mz hs
    rw [qmd_hires_L5] at hs
    by_cases h2 : x3 < (520 : Int32)
    · rw [if_pos h2] at hs
      refine Rc.goL mt_1208 2 (f2 := (if x3 < (520 : Int32) then 12 else 31, [.ref 280, .int x1, .int x2, .int x3], [], gm M)) (b := true) rfl rfl ?_
      rw [if_pos h2]
      obtain ⟨hb1, hs⟩ := ck_some hs
      obtain ⟨hb1_0, hb1⟩ := and_t hb1
      refine Rc.goL mt_1208 6 (f2 := (23, [.ref 280, .int x1, .int x2, .int x3], [.int (((520 : Int32) * x1) + x3), .ref 288], gm M)) (b := true) rfl rfl ?_
      refine Rc.goL mt_1208 1 (f2 := (25, [.ref 280, .int x1, .int x2, .int x3], [], gm (wI M 288 (Int32.toNatClampNeg (((520 : Int32) * x1) + x3)) x2))) (b := (ib 8320 (((520 : Int32) * x1) + x3) && true)) rfl (and_i hb1_0 rfl) ?_
      refine Rc.goL mt_1208 1 (f2 := (5, [.ref 280, .int x1, .int x2, .int (x3 + (1 : Int32))], [], gm (wI M 288 (Int32.toNatClampNeg (((520 : Int32) * x1) + x3)) x2))) (b := true) rfl rfl ?_
      refine Rc.less (ls2 := [.ref 280, .int x1, .int x2, .int (x3 + (1 : Int32))]) (by refine ⟨Or.inr rfl, Or.inr rfl, Or.inr rfl, Or.inr rfl, trivial⟩) ?_
      exact ih x1 x2 (x3 + (1 : Int32)) _ _ _ hs
    · rw [if_neg h2] at hs
      refine Rc.goL mt_1208 2 (f2 := (if x3 < (520 : Int32) then 12 else 31, [.ref 280, .int x1, .int x2, .int x3], [], gm M)) (b := true) rfl rfl ?_
      rw [if_neg h2]
      obtain ⟨e1, e2⟩ := some_p hs; subst e1; subst e2
      exact Rc.ret (v := none) rfl rfl
set_option maxRecDepth 20000 in
theorem qmd_hires_ok (d : Nat) (hd : 1 ≤ d) {x1 : Int32} {x2 : Int32} {M : SM} {r : Unit} {Mz : SM} (hs : qmd_hires x1 x2 M = some (r, Mz)) : Ex d 1208 [.ref 280, .int x1, .int x2] (gm M) (none, gm Mz) := by
  obtain ⟨d, rfl⟩ : ∃ d0, d = d0 + 1 := ⟨d - 1, by omega⟩
  refine Ex.of okm_1208 (by omega) (Nat.le_of_ble_eq_true rfl) ?_
  show Rc (d + 1) 1208 (0, [.ref 280, .int x1, .int x2, UU], [], gm M) _
  unfold qmd_hires at hs
  refine Rc.goL mt_1208 2 (f2 := (5, [.ref 280, .int x1, .int x2, .int (M.1 280 0)], [], gm M)) (b := true) rfl rfl ?_
  refine Rc.less (ls2 := [.ref 280, .int x1, .int x2, .int (M.1 280 0)]) (by refine ⟨Or.inr rfl, Or.inr rfl, Or.inr rfl, Or.inr rfl, trivial⟩) ?_
  exact qmd_hires_L5_ok d hd _ x1 x2 (M.1 280 0) _ _ _ hs
def qmd_frame_L76 : Nat → Int32 → Int32 → SM → Option (Int32 × SM)
  | 0, _, _, _ => none
  | n + 1, x3, x4, M =>
    if x4 < (520 : Int32) then
    (ck (ib 8320 (((520 : Int32) * (M.1 280 3)) + x4) && true) (
      qmd_frame_L76 n x3 (x4 + (1 : Int32)) (wI M 288 (Int32.toNatClampNeg (((520 : Int32) * (M.1 280 3)) + x4)) x3))) else
    (some ((((M.1 280 3) + (1 : Int32)) - (1 : Int32)), (wI M 280 3 ((M.1 280 3) + (1 : Int32)))))
def qmd_frame (x1 : Int32) (x2 : Int32) (x3 : Int32) (M : SM) : Option (Int32 × SM) :=
  ob (qmd_in x1 (10 : Int32) (40 : Int32) M) (fun r1 M2 =>
  if r1 = 0 then
  (some ((-1 : Int32), M2)) else
  (ob (qmd_isMaster x2 M2) (fun r4 M5 =>
    if r4 = 0 then
    (some ((-1 : Int32), M5)) else
    (jn (fun (x1_7 : Int32) (x2_8 : Int32) (x3_9 : Int32) (M10 : SM) =>
        if (M10.1 280 3) = (16 : Int32) then
          (some ((-1 : Int32), M10)) else
          (ck (ib 16 (M10.1 280 3) && (ib 16 (M10.1 280 3) && (ib 16 (M10.1 280 3) && true))) (
            qmd_frame_L76 FU x3_9 (0 : Int32) (wI (wI (wI M10 283 (Int32.toNatClampNeg (M10.1 280 3)) x1_7) 284 (Int32.toNatClampNeg (M10.1 280 3)) x2_8) 285 (Int32.toNatClampNeg (M10.1 280 3)) x3_9)))) (fun j15 =>
      if x3 = (-1 : Int32) then
      (j15 x1 x2 x3 M5) else
      (ob (qmd_isKnitter x3 M5) (fun r16 M17 =>
        if r16 = 0 then
        (some ((-1 : Int32), M17)) else
        (j15 x1 x2 x3 M17))))))))
theorem mt_1209 : MT 1209 K_1209 LN_12 := ⟨rfl, rfl, by decide +kernel⟩
theorem okm_1209 : OKm 1209 := ⟨⟨vE_1209, okL_12, by decide +kernel⟩, by decide +kernel, by decide +kernel, by decide +kernel⟩
set_option maxRecDepth 20000 in
theorem qmd_frame_L76_ok (d : Nat) (hd : 2 ≤ d + 1) : ∀ (n : Nat) (x3 : Int32) (x4 : Int32) (M : SM) (r : Int32) (Mz : SM), qmd_frame_L76 n x3 x4 M = some (r, Mz) → Rc (d + 1) 1209 (76, [.ref 280, UU, UU, .int x3, .int x4], [], gm M) (some (.int r), gm Mz) := by
  intro n
  induction n with
  | zero => intro x3 x4 M r Mz hs; cases hs
  | succ n ih =>
    intro x3 x4 M r Mz hs
    rw [qmd_frame_L76] at hs
    by_cases h13 : x4 < (520 : Int32)
    · rw [if_pos h13] at hs
      refine Rc.goL mt_1209 2 (f2 := (if x4 < (520 : Int32) then 84 else 107, [.ref 280, UU, UU, .int x3, .int x4], [], gm M)) (b := true) rfl rfl ?_
      rw [if_pos h13]
      obtain ⟨hb12, hs⟩ := ck_some hs
      obtain ⟨hb12_0, hb12⟩ := and_t hb12
      refine Rc.goL mt_1209 6 (f2 := (98, [.ref 280, UU, UU, .int x3, .int x4], [.int x4, .int ((520 : Int32) * (M.1 280 3)), .ref 288], gm M)) (b := true) rfl rfl ?_
      refine Rc.goL mt_1209 2 (f2 := (101, [.ref 280, UU, UU, .int x3, .int x4], [], gm (wI M 288 (Int32.toNatClampNeg (((520 : Int32) * (M.1 280 3)) + x4)) x3))) (b := (ib 8320 (((520 : Int32) * (M.1 280 3)) + x4) && true)) rfl (and_i hb12_0 rfl) ?_
      refine Rc.goL mt_1209 1 (f2 := (76, [.ref 280, UU, UU, .int x3, .int (x4 + (1 : Int32))], [], gm (wI M 288 (Int32.toNatClampNeg (((520 : Int32) * (M.1 280 3)) + x4)) x3))) (b := true) rfl rfl ?_
      refine Rc.less (ls2 := [.ref 280, UU, UU, .int x3, .int (x4 + (1 : Int32))]) (by refine ⟨Or.inr rfl, Or.inl rfl, Or.inl rfl, Or.inr rfl, Or.inr rfl, trivial⟩) ?_
      exact ih x3 (x4 + (1 : Int32)) _ _ _ hs
    · rw [if_neg h13] at hs
      refine Rc.goL mt_1209 2 (f2 := (if x4 < (520 : Int32) then 84 else 107, [.ref 280, UU, UU, .int x3, .int x4], [], gm M)) (b := true) rfl rfl ?_
      rw [if_neg h13]
      refine Rc.goL mt_1209 5 (f2 := (117, [.ref 280, UU, UU, .int x3, .int x4], [], gm (wI M 280 3 ((M.1 280 3) + (1 : Int32))))) (b := true) rfl rfl ?_
      refine Rc.goL mt_1209 3 (f2 := (123, [.ref 280, UU, UU, .int x3, .int x4], [.int (((M.1 280 3) + (1 : Int32)) - (1 : Int32))], gm (wI M 280 3 ((M.1 280 3) + (1 : Int32))))) (b := true) rfl rfl ?_
      obtain ⟨e1, e2⟩ := some_p hs; subst e1; subst e2
      exact Rc.ret (v := some (.int (((M.1 280 3) + (1 : Int32)) - (1 : Int32)))) rfl rfl
set_option maxRecDepth 20000 in
theorem qmd_frame_ok (d : Nat) (hd : 2 ≤ d) {x1 : Int32} {x2 : Int32} {x3 : Int32} {M : SM} {r : Int32} {Mz : SM} (hs : qmd_frame x1 x2 x3 M = some (r, Mz)) : Ex d 1209 [.ref 280, .int x1, .int x2, .int x3] (gm M) (some (.int r), gm Mz) := by
  obtain ⟨d, rfl⟩ : ∃ d0, d = d0 + 1 := ⟨d - 1, by omega⟩
  refine Ex.of okm_1209 (by omega) (Nat.le_of_ble_eq_true rfl) ?_
  show Rc (d + 1) 1209 (0, [.ref 280, .int x1, .int x2, .int x3, UU], [], gm M) _
  unfold qmd_frame at hs
  refine Rc.goL mt_1209 2 (f2 := (5, [.ref 280, .int x1, .int x2, .int x3, UU], [.int (40 : Int32), .int (10 : Int32), .int x1], gm M)) (b := true) rfl rfl ?_
  obtain ⟨r1, M2, he3, hs⟩ := ob_some hs
  refine Rc.callS (i := 195) (mid' := 1201) (av := [.int x1, .int (10 : Int32), .int (40 : Int32)]) (rest := []) (v := some (.int r1)) (M1 := gm M2) rfl (Or.inl rfl) rfl cw_1201 rfl (Nat.le_of_ble_eq_true rfl) (qmd_in_ok _ (by omega) he3) ?_
  by_cases h22 : r1 = 0
  · rw [if_pos h22] at hs
    refine Rc.goL mt_1209 0 (f2 := (if r1 = 0 then 41 else 11, [.ref 280, .int x1, .int x2, .int x3, UU], [], gm M2)) (b := true) rfl rfl ?_
    rw [if_pos h22]
    refine Rc.goL mt_1209 0 (f2 := (42, [.ref 280, .int x1, .int x2, .int x3, UU], [.int (-1 : Int32)], gm M2)) (b := true) rfl rfl ?_
    obtain ⟨e1, e2⟩ := some_p hs; subst e1; subst e2
    exact Rc.ret (v := some (.int (-1 : Int32))) rfl rfl
  · rw [if_neg h22] at hs
    refine Rc.goL mt_1209 0 (f2 := (if r1 = 0 then 41 else 11, [.ref 280, .int x1, .int x2, .int x3, UU], [], gm M2)) (b := true) rfl rfl ?_
    rw [if_neg h22]
    refine Rc.goL mt_1209 1 (f2 := (13, [.ref 280, .int x1, .int x2, .int x3, UU], [.int x2, .ref 280], gm M2)) (b := true) rfl rfl ?_
    obtain ⟨r4, M5, he6, hs⟩ := ob_some hs
    refine Rc.callV (i := 191) (mid' := 1202) (av := [.int x2]) (rest := []) (v := some (.int r4)) (M1 := gm M5) (a := 280) rfl rfl rfl cw_1202 rfl (Nat.le_of_ble_eq_true rfl) rfl (Nat.le_of_ble_eq_true rfl) (qmd_isMaster_ok _ (by omega) he6) ?_
    by_cases h21 : r4 = 0
    · rw [if_pos h21] at hs
      refine Rc.goL mt_1209 0 (f2 := (if r4 = 0 then 41 else 19, [.ref 280, .int x1, .int x2, .int x3, UU], [], gm M5)) (b := true) rfl rfl ?_
      rw [if_pos h21]
      refine Rc.goL mt_1209 0 (f2 := (42, [.ref 280, .int x1, .int x2, .int x3, UU], [.int (-1 : Int32)], gm M5)) (b := true) rfl rfl ?_
      obtain ⟨e1, e2⟩ := some_p hs; subst e1; subst e2
      exact Rc.ret (v := some (.int (-1 : Int32))) rfl rfl
    · rw [if_neg h21] at hs
      refine Rc.goL mt_1209 0 (f2 := (if r4 = 0 then 41 else 19, [.ref 280, .int x1, .int x2, .int x3, UU], [], gm M5)) (b := true) rfl rfl ?_
      rw [if_neg h21]
      refine jn_e (P := fun (j : Int32 → Int32 → Int32 → SM → Option (Int32 × SM)) => ∀ (x1_7 : Int32) (x2_8 : Int32) (x3_9 : Int32) (M10 : SM) (r : Int32) (Mz : SM), j x1_7 x2_8 x3_9 M10 = some (r, Mz) → Rc (d + 1) 1209 (32, [.ref 280, .int x1_7, .int x2_8, .int x3_9, UU], [], gm M10) (some (.int r), gm Mz)) hs ?_ (fun j15 Hj15 hs => ?_)
      · intro x1_7 x2_8 x3_9 M10 r Mz hs
        try dsimp only at hs
        by_cases h14 : (M10.1 280 3) = (16 : Int32)
        · rw [if_pos h14] at hs
          refine Rc.goL mt_1209 3 (f2 := (if (M10.1 280 3) = (16 : Int32) then 41 else 43, [.ref 280, .int x1_7, .int x2_8, .int x3_9, UU], [], gm M10)) (b := true) rfl rfl ?_
          rw [if_pos h14]
          refine Rc.goL mt_1209 0 (f2 := (42, [.ref 280, .int x1_7, .int x2_8, .int x3_9, UU], [.int (-1 : Int32)], gm M10)) (b := true) rfl rfl ?_
          obtain ⟨e1, e2⟩ := some_p hs; subst e1; subst e2
          exact Rc.ret (v := some (.int (-1 : Int32))) rfl rfl
        · rw [if_neg h14] at hs
          refine Rc.goL mt_1209 3 (f2 := (if (M10.1 280 3) = (16 : Int32) then 41 else 43, [.ref 280, .int x1_7, .int x2_8, .int x3_9, UU], [], gm M10)) (b := true) rfl rfl ?_
          rw [if_neg h14]
          obtain ⟨hb11, hs⟩ := ck_some hs
          obtain ⟨hb11_0, hb11⟩ := and_t hb11
          obtain ⟨hb11_1, hb11⟩ := and_t hb11
          obtain ⟨hb11_2, hb11⟩ := and_t hb11
          refine Rc.goL mt_1209 5 (f2 := (53, [.ref 280, .int x1_7, .int x2_8, .int x3_9, UU], [], gm (wI M10 283 (Int32.toNatClampNeg (M10.1 280 3)) x1_7))) (b := (ib 16 (M10.1 280 3) && true)) rfl (and_i hb11_0 rfl) ?_
          refine Rc.goL mt_1209 5 (f2 := (63, [.ref 280, .int x1_7, .int x2_8, .int x3_9, UU], [], gm (wI (wI M10 283 (Int32.toNatClampNeg (M10.1 280 3)) x1_7) 284 (Int32.toNatClampNeg (M10.1 280 3)) x2_8))) (b := (ib 16 (M10.1 280 3) && true)) rfl (and_i hb11_1 rfl) ?_
          refine Rc.goL mt_1209 5 (f2 := (73, [.ref 280, .int x1_7, .int x2_8, .int x3_9, UU], [], gm (wI (wI (wI M10 283 (Int32.toNatClampNeg (M10.1 280 3)) x1_7) 284 (Int32.toNatClampNeg (M10.1 280 3)) x2_8) 285 (Int32.toNatClampNeg (M10.1 280 3)) x3_9))) (b := (ib 16 (M10.1 280 3) && true)) rfl (and_i hb11_2 rfl) ?_
          refine Rc.goL mt_1209 1 (f2 := (76, [.ref 280, .int x1_7, .int x2_8, .int x3_9, .int (0 : Int32)], [], gm (wI (wI (wI M10 283 (Int32.toNatClampNeg (M10.1 280 3)) x1_7) 284 (Int32.toNatClampNeg (M10.1 280 3)) x2_8) 285 (Int32.toNatClampNeg (M10.1 280 3)) x3_9))) (b := true) rfl rfl ?_
          refine Rc.less (ls2 := [.ref 280, UU, UU, .int x3_9, .int (0 : Int32)]) (by refine ⟨Or.inr rfl, Or.inl rfl, Or.inl rfl, Or.inr rfl, Or.inr rfl, trivial⟩) ?_
          exact qmd_frame_L76_ok d hd _ x3_9 (0 : Int32) _ _ _ hs
      by_cases h20 : x3 = (-1 : Int32)
      · rw [if_pos h20] at hs
        refine Rc.goL mt_1209 2 (f2 := (if x3 = (-1 : Int32) then 32 else 24, [.ref 280, .int x1, .int x2, .int x3, UU], [], gm M5)) (b := true) rfl rfl ?_
        rw [if_pos h20]
        refine Rc.less (ls2 := [.ref 280, .int x1, .int x2, .int x3, UU]) (by refine ⟨Or.inr rfl, Or.inr rfl, Or.inr rfl, Or.inr rfl, Or.inl rfl, trivial⟩) ?_
        exact Hj15 x1 x2 x3 _ _ _ hs
      · rw [if_neg h20] at hs
        refine Rc.goL mt_1209 2 (f2 := (if x3 = (-1 : Int32) then 32 else 24, [.ref 280, .int x1, .int x2, .int x3, UU], [], gm M5)) (b := true) rfl rfl ?_
        rw [if_neg h20]
        refine Rc.goL mt_1209 1 (f2 := (26, [.ref 280, .int x1, .int x2, .int x3, UU], [.int x3, .ref 280], gm M5)) (b := true) rfl rfl ?_
        obtain ⟨r16, M17, he18, hs⟩ := ob_some hs
        refine Rc.callV (i := 202) (mid' := 1203) (av := [.int x3]) (rest := []) (v := some (.int r16)) (M1 := gm M17) (a := 280) rfl rfl rfl cw_1203 rfl (Nat.le_of_ble_eq_true rfl) rfl (Nat.le_of_ble_eq_true rfl) (qmd_isKnitter_ok _ (by omega) he18) ?_
        by_cases h19 : r16 = 0
        · rw [if_pos h19] at hs
          refine Rc.goL mt_1209 0 (f2 := (if r16 = 0 then 41 else 32, [.ref 280, .int x1, .int x2, .int x3, UU], [], gm M17)) (b := true) rfl rfl ?_
          rw [if_pos h19]
          refine Rc.goL mt_1209 0 (f2 := (42, [.ref 280, .int x1, .int x2, .int x3, UU], [.int (-1 : Int32)], gm M17)) (b := true) rfl rfl ?_
          obtain ⟨e1, e2⟩ := some_p hs; subst e1; subst e2
          exact Rc.ret (v := some (.int (-1 : Int32))) rfl rfl
        · rw [if_neg h19] at hs
          refine Rc.goL mt_1209 0 (f2 := (if r16 = 0 then 41 else 32, [.ref 280, .int x1, .int x2, .int x3, UU], [], gm M17)) (b := true) rfl rfl ?_
          rw [if_neg h19]
          refine Rc.less (ls2 := [.ref 280, .int x1, .int x2, .int x3, UU]) (by refine ⟨Or.inr rfl, Or.inr rfl, Or.inr rfl, Or.inr rfl, Or.inl rfl, trivial⟩) ?_
          exact Hj15 x1 x2 x3 _ _ _ hs
def qmd_hirerOf (x1 : Int32) (x2 : Int32) (M : SM) : Option (Int32 × SM) :=
  ck (ib 8320 (((520 : Int32) * x1) + x2) && true) (
  some ((M.1 288 (Int32.toNatClampNeg (((520 : Int32) * x1) + x2))), M))
theorem mt_1210 : MT 1210 K_1210 LN_12 := ⟨rfl, rfl, by decide +kernel⟩
theorem okm_1210 : OKm 1210 := ⟨⟨vE_1210, okL_12, by decide +kernel⟩, by decide +kernel, by decide +kernel, by decide +kernel⟩
set_option maxRecDepth 20000 in
theorem qmd_hirerOf_ok (d : Nat) (hd : 1 ≤ d) {x1 : Int32} {x2 : Int32} {M : SM} {r : Int32} {Mz : SM} (hs : qmd_hirerOf x1 x2 M = some (r, Mz)) : Ex d 1210 [.ref 280, .int x1, .int x2] (gm M) (some (.int r), gm Mz) := by
  obtain ⟨d, rfl⟩ : ∃ d0, d = d0 + 1 := ⟨d - 1, by omega⟩
  refine Ex.of okm_1210 (by omega) (Nat.le_of_ble_eq_true rfl) ?_
  show Rc (d + 1) 1210 (0, [.ref 280, .int x1, .int x2], [], gm M) _
  unfold qmd_hirerOf at hs
  obtain ⟨hb1, hs⟩ := ck_some hs
  obtain ⟨hb1_0, hb1⟩ := and_t hb1
  refine Rc.goL mt_1210 6 (f2 := (11, [.ref 280, .int x1, .int x2], [.int (((520 : Int32) * x1) + x2), .ref 288], gm M)) (b := true) rfl rfl ?_
  refine Rc.goL mt_1210 0 (f2 := (12, [.ref 280, .int x1, .int x2], [.int (M.1 288 (Int32.toNatClampNeg (((520 : Int32) * x1) + x2)))], gm M)) (b := (ib 8320 (((520 : Int32) * x1) + x2) && true)) rfl (and_i hb1_0 rfl) ?_
  obtain ⟨e1, e2⟩ := some_p hs; subst e1; subst e2
  exact Rc.ret (v := some (.int (M.1 288 (Int32.toNatClampNeg (((520 : Int32) * x1) + x2))))) rfl rfl
def qmd_hire (x1 : Int32) (x2 : Int32) (M : SM) : Option (Int32 × SM) :=
  ob (qmd_isFrame x1 M) (fun r1 M2 =>
  if r1 = 0 then
  (some ((0 : Int32), M2)) else
  (ob (qmd_isKnitter x2 M2) (fun r4 M5 =>
    if r4 = 0 then
    (some ((0 : Int32), M5)) else
    (ck (ib 16 x1 && true) (
      if (M5.1 285 (Int32.toNatClampNeg x1)) = (-1 : Int32) then
      (ob (qmd_hirerOf x1 (M5.1 280 0) M5) (fun r8 M9 =>
        if r8 = (-1 : Int32) then
        (ob (qmd_hires x1 x2 M9) (fun _ M11 =>
          some ((1 : Int32), M11))) else
        (some ((0 : Int32), M9)))) else
      (some ((0 : Int32), M5)))))))
theorem mt_1211 : MT 1211 K_1211 LN_12 := ⟨rfl, rfl, by decide +kernel⟩
theorem okm_1211 : OKm 1211 := ⟨⟨vE_1211, okL_12, by decide +kernel⟩, by decide +kernel, by decide +kernel, by decide +kernel⟩
set_option maxRecDepth 20000 in
theorem qmd_hire_ok (d : Nat) (hd : 2 ≤ d) {x1 : Int32} {x2 : Int32} {M : SM} {r : Int32} {Mz : SM} (hs : qmd_hire x1 x2 M = some (r, Mz)) : Ex d 1211 [.ref 280, .int x1, .int x2] (gm M) (some (.int r), gm Mz) := by
  obtain ⟨d, rfl⟩ : ∃ d0, d = d0 + 1 := ⟨d - 1, by omega⟩
  refine Ex.of okm_1211 (by omega) (Nat.le_of_ble_eq_true rfl) ?_
  show Rc (d + 1) 1211 (0, [.ref 280, .int x1, .int x2], [], gm M) _
  unfold qmd_hire at hs
  refine Rc.goL mt_1211 1 (f2 := (2, [.ref 280, .int x1, .int x2], [.int x1, .ref 280], gm M)) (b := true) rfl rfl ?_
  obtain ⟨r1, M2, he3, hs⟩ := ob_some hs
  refine Rc.callV (i := 205) (mid' := 1204) (av := [.int x1]) (rest := []) (v := some (.int r1)) (M1 := gm M2) (a := 280) rfl rfl rfl cw_1204 rfl (Nat.le_of_ble_eq_true rfl) rfl (Nat.le_of_ble_eq_true rfl) (qmd_isFrame_ok _ (by omega) he3) ?_
  by_cases h17 : r1 = 0
  · rw [if_pos h17] at hs
    refine Rc.goL mt_1211 0 (f2 := (if r1 = 0 then 39 else 8, [.ref 280, .int x1, .int x2], [], gm M2)) (b := true) rfl rfl ?_
    rw [if_pos h17]
    refine Rc.goL mt_1211 0 (f2 := (40, [.ref 280, .int x1, .int x2], [.int (0 : Int32)], gm M2)) (b := true) rfl rfl ?_
    obtain ⟨e1, e2⟩ := some_p hs; subst e1; subst e2
    exact Rc.ret (v := some (.int (0 : Int32))) rfl rfl
  · rw [if_neg h17] at hs
    refine Rc.goL mt_1211 0 (f2 := (if r1 = 0 then 39 else 8, [.ref 280, .int x1, .int x2], [], gm M2)) (b := true) rfl rfl ?_
    rw [if_neg h17]
    refine Rc.goL mt_1211 1 (f2 := (10, [.ref 280, .int x1, .int x2], [.int x2, .ref 280], gm M2)) (b := true) rfl rfl ?_
    obtain ⟨r4, M5, he6, hs⟩ := ob_some hs
    refine Rc.callV (i := 202) (mid' := 1203) (av := [.int x2]) (rest := []) (v := some (.int r4)) (M1 := gm M5) (a := 280) rfl rfl rfl cw_1203 rfl (Nat.le_of_ble_eq_true rfl) rfl (Nat.le_of_ble_eq_true rfl) (qmd_isKnitter_ok _ (by omega) he6) ?_
    by_cases h16 : r4 = 0
    · rw [if_pos h16] at hs
      refine Rc.goL mt_1211 0 (f2 := (if r4 = 0 then 39 else 16, [.ref 280, .int x1, .int x2], [], gm M5)) (b := true) rfl rfl ?_
      rw [if_pos h16]
      refine Rc.goL mt_1211 0 (f2 := (40, [.ref 280, .int x1, .int x2], [.int (0 : Int32)], gm M5)) (b := true) rfl rfl ?_
      obtain ⟨e1, e2⟩ := some_p hs; subst e1; subst e2
      exact Rc.ret (v := some (.int (0 : Int32))) rfl rfl
    · rw [if_neg h16] at hs
      refine Rc.goL mt_1211 0 (f2 := (if r4 = 0 then 39 else 16, [.ref 280, .int x1, .int x2], [], gm M5)) (b := true) rfl rfl ?_
      rw [if_neg h16]
      obtain ⟨hb7, hs⟩ := ck_some hs
      by_cases h15 : (M5.1 285 (Int32.toNatClampNeg x1)) = (-1 : Int32)
      · rw [if_pos h15] at hs
        refine Rc.goL mt_1211 5 (f2 := (if (M5.1 285 (Int32.toNatClampNeg x1)) = (-1 : Int32) then 26 else 39, [.ref 280, .int x1, .int x2], [], gm M5)) (b := (ib 16 x1 && true)) rfl hb7 ?_
        rw [if_pos h15]
        refine Rc.goL mt_1211 3 (f2 := (32, [.ref 280, .int x1, .int x2], [.int (M5.1 280 0), .int x1, .ref 280], gm M5)) (b := true) rfl rfl ?_
        obtain ⟨r8, M9, he10, hs⟩ := ob_some hs
        refine Rc.callV (i := 208) (mid' := 1210) (av := [.int x1, .int (M5.1 280 0)]) (rest := []) (v := some (.int r8)) (M1 := gm M9) (a := 280) rfl rfl rfl cw_1210 rfl (Nat.le_of_ble_eq_true rfl) rfl (Nat.le_of_ble_eq_true rfl) (qmd_hirerOf_ok _ (by omega) he10) ?_
        by_cases h14 : r8 = (-1 : Int32)
        · rw [if_pos h14] at hs
          refine Rc.goL mt_1211 1 (f2 := (if r8 = (-1 : Int32) then 41 else 39, [.ref 280, .int x1, .int x2], [], gm M9)) (b := true) rfl rfl ?_
          rw [if_pos h14]
          refine Rc.goL mt_1211 2 (f2 := (44, [.ref 280, .int x1, .int x2], [.int x2, .int x1, .ref 280], gm M9)) (b := true) rfl rfl ?_
          obtain ⟨u13, M11, he12, hs⟩ := ob_some hs
          refine Rc.callV (i := 212) (mid' := 1208) (av := [.int x1, .int x2]) (rest := []) (v := none) (M1 := gm M11) (a := 280) rfl rfl rfl cw_1208 rfl (Nat.le_of_ble_eq_true rfl) rfl (Nat.le_of_ble_eq_true rfl) (qmd_hires_ok _ (by omega) he12) ?_
          refine Rc.goL mt_1211 0 (f2 := (48, [.ref 280, .int x1, .int x2], [.int (1 : Int32)], gm M11)) (b := true) rfl rfl ?_
          obtain ⟨e1, e2⟩ := some_p hs; subst e1; subst e2
          exact Rc.ret (v := some (.int (1 : Int32))) rfl rfl
        · rw [if_neg h14] at hs
          refine Rc.goL mt_1211 1 (f2 := (if r8 = (-1 : Int32) then 41 else 39, [.ref 280, .int x1, .int x2], [], gm M9)) (b := true) rfl rfl ?_
          rw [if_neg h14]
          refine Rc.goL mt_1211 0 (f2 := (40, [.ref 280, .int x1, .int x2], [.int (0 : Int32)], gm M9)) (b := true) rfl rfl ?_
          obtain ⟨e1, e2⟩ := some_p hs; subst e1; subst e2
          exact Rc.ret (v := some (.int (0 : Int32))) rfl rfl
      · rw [if_neg h15] at hs
        refine Rc.goL mt_1211 5 (f2 := (if (M5.1 285 (Int32.toNatClampNeg x1)) = (-1 : Int32) then 26 else 39, [.ref 280, .int x1, .int x2], [], gm M5)) (b := (ib 16 x1 && true)) rfl hb7 ?_
        rw [if_neg h15]
        refine Rc.goL mt_1211 0 (f2 := (40, [.ref 280, .int x1, .int x2], [.int (0 : Int32)], gm M5)) (b := true) rfl rfl ?_
        obtain ⟨e1, e2⟩ := some_p hs; subst e1; subst e2
        exact Rc.ret (v := some (.int (0 : Int32))) rfl rfl
def qmd_back (x1 : Int32) (M : SM) : Option (Int32 × SM) :=
  ob (qmd_isFrame x1 M) (fun r1 M2 =>
  if r1 = 0 then
  (some ((0 : Int32), M2)) else
  (ck (ib 16 x1 && true) (
    if (M2.1 285 (Int32.toNatClampNeg x1)) = (-1 : Int32) then
    (ob (qmd_hirerOf x1 (M2.1 280 0) M2) (fun r5 M6 =>
      if r5 = (-1 : Int32) then
      (some ((0 : Int32), M6)) else
      (ob (qmd_hires x1 (-1 : Int32) M6) (fun _ M8 =>
        some ((1 : Int32), M8))))) else
    (some ((0 : Int32), M2)))))
theorem mt_1212 : MT 1212 K_1212 LN_12 := ⟨rfl, rfl, by decide +kernel⟩
theorem okm_1212 : OKm 1212 := ⟨⟨vE_1212, okL_12, by decide +kernel⟩, by decide +kernel, by decide +kernel, by decide +kernel⟩
set_option maxRecDepth 20000 in
theorem qmd_back_ok (d : Nat) (hd : 2 ≤ d) {x1 : Int32} {M : SM} {r : Int32} {Mz : SM} (hs : qmd_back x1 M = some (r, Mz)) : Ex d 1212 [.ref 280, .int x1] (gm M) (some (.int r), gm Mz) := by
  obtain ⟨d, rfl⟩ : ∃ d0, d = d0 + 1 := ⟨d - 1, by omega⟩
  refine Ex.of okm_1212 (by omega) (Nat.le_of_ble_eq_true rfl) ?_
  show Rc (d + 1) 1212 (0, [.ref 280, .int x1], [], gm M) _
  unfold qmd_back at hs
  refine Rc.goL mt_1212 1 (f2 := (2, [.ref 280, .int x1], [.int x1, .ref 280], gm M)) (b := true) rfl rfl ?_
  obtain ⟨r1, M2, he3, hs⟩ := ob_some hs
  refine Rc.callV (i := 205) (mid' := 1204) (av := [.int x1]) (rest := []) (v := some (.int r1)) (M1 := gm M2) (a := 280) rfl rfl rfl cw_1204 rfl (Nat.le_of_ble_eq_true rfl) rfl (Nat.le_of_ble_eq_true rfl) (qmd_isFrame_ok _ (by omega) he3) ?_
  by_cases h13 : r1 = 0
  · rw [if_pos h13] at hs
    refine Rc.goL mt_1212 0 (f2 := (if r1 = 0 then 31 else 8, [.ref 280, .int x1], [], gm M2)) (b := true) rfl rfl ?_
    rw [if_pos h13]
    refine Rc.goL mt_1212 0 (f2 := (32, [.ref 280, .int x1], [.int (0 : Int32)], gm M2)) (b := true) rfl rfl ?_
    obtain ⟨e1, e2⟩ := some_p hs; subst e1; subst e2
    exact Rc.ret (v := some (.int (0 : Int32))) rfl rfl
  · rw [if_neg h13] at hs
    refine Rc.goL mt_1212 0 (f2 := (if r1 = 0 then 31 else 8, [.ref 280, .int x1], [], gm M2)) (b := true) rfl rfl ?_
    rw [if_neg h13]
    obtain ⟨hb4, hs⟩ := ck_some hs
    by_cases h12 : (M2.1 285 (Int32.toNatClampNeg x1)) = (-1 : Int32)
    · rw [if_pos h12] at hs
      refine Rc.goL mt_1212 5 (f2 := (if (M2.1 285 (Int32.toNatClampNeg x1)) = (-1 : Int32) then 18 else 31, [.ref 280, .int x1], [], gm M2)) (b := (ib 16 x1 && true)) rfl hb4 ?_
      rw [if_pos h12]
      refine Rc.goL mt_1212 3 (f2 := (24, [.ref 280, .int x1], [.int (M2.1 280 0), .int x1, .ref 280], gm M2)) (b := true) rfl rfl ?_
      obtain ⟨r5, M6, he7, hs⟩ := ob_some hs
      refine Rc.callV (i := 208) (mid' := 1210) (av := [.int x1, .int (M2.1 280 0)]) (rest := []) (v := some (.int r5)) (M1 := gm M6) (a := 280) rfl rfl rfl cw_1210 rfl (Nat.le_of_ble_eq_true rfl) rfl (Nat.le_of_ble_eq_true rfl) (qmd_hirerOf_ok _ (by omega) he7) ?_
      by_cases h11 : r5 = (-1 : Int32)
      · rw [if_pos h11] at hs
        refine Rc.goL mt_1212 1 (f2 := (if r5 = (-1 : Int32) then 31 else 33, [.ref 280, .int x1], [], gm M6)) (b := true) rfl rfl ?_
        rw [if_pos h11]
        refine Rc.goL mt_1212 0 (f2 := (32, [.ref 280, .int x1], [.int (0 : Int32)], gm M6)) (b := true) rfl rfl ?_
        obtain ⟨e1, e2⟩ := some_p hs; subst e1; subst e2
        exact Rc.ret (v := some (.int (0 : Int32))) rfl rfl
      · rw [if_neg h11] at hs
        refine Rc.goL mt_1212 1 (f2 := (if r5 = (-1 : Int32) then 31 else 33, [.ref 280, .int x1], [], gm M6)) (b := true) rfl rfl ?_
        rw [if_neg h11]
        refine Rc.goL mt_1212 2 (f2 := (36, [.ref 280, .int x1], [.int (-1 : Int32), .int x1, .ref 280], gm M6)) (b := true) rfl rfl ?_
        obtain ⟨u10, M8, he9, hs⟩ := ob_some hs
        refine Rc.callV (i := 212) (mid' := 1208) (av := [.int x1, .int (-1 : Int32)]) (rest := []) (v := none) (M1 := gm M8) (a := 280) rfl rfl rfl cw_1208 rfl (Nat.le_of_ble_eq_true rfl) rfl (Nat.le_of_ble_eq_true rfl) (qmd_hires_ok _ (by omega) he9) ?_
        refine Rc.goL mt_1212 0 (f2 := (40, [.ref 280, .int x1], [.int (1 : Int32)], gm M8)) (b := true) rfl rfl ?_
        obtain ⟨e1, e2⟩ := some_p hs; subst e1; subst e2
        exact Rc.ret (v := some (.int (1 : Int32))) rfl rfl
    · rw [if_neg h12] at hs
      refine Rc.goL mt_1212 5 (f2 := (if (M2.1 285 (Int32.toNatClampNeg x1)) = (-1 : Int32) then 18 else 31, [.ref 280, .int x1], [], gm M2)) (b := (ib 16 x1 && true)) rfl hb4 ?_
      rw [if_neg h12]
      refine Rc.goL mt_1212 0 (f2 := (32, [.ref 280, .int x1], [.int (0 : Int32)], gm M2)) (b := true) rfl rfl ?_
      obtain ⟨e1, e2⟩ := some_p hs; subst e1; subst e2
      exact Rc.ret (v := some (.int (0 : Int32))) rfl rfl
def qmd_types_L2 : Nat → Int32 → Int32 → SM → Option (Unit × SM)
  | 0, _, _, _ => none
  | n + 1, x1, x2, M =>
    if x2 < 0 then
    (some ((), M)) else
    (ck (ib 200 (M.1 280 13) && true) (
      qmd_types_L2 n x1 (x2 + (-1 : Int32)) (wI (wI M 289 (Int32.toNatClampNeg (M.1 280 13)) (Int8.toInt32 (Int32.toInt8 (Int8.toInt32 (Int32.toInt8 (x1 >>> (((8 : Int32) * x2) &&& 31))))))) 280 13 ((M.1 280 13) + (1 : Int32)))))
def qmd_types (x1 : Int32) (M : SM) : Option (Unit × SM) :=
  qmd_types_L2 FU x1 (3 : Int32) M
theorem mt_1213 : MT 1213 K_1213 LN_12 := ⟨rfl, rfl, by decide +kernel⟩
theorem okm_1213 : OKm 1213 := ⟨⟨vE_1213, okL_12, by decide +kernel⟩, by decide +kernel, by decide +kernel, by decide +kernel⟩
set_option maxRecDepth 20000 in
theorem qmd_types_L2_ok (d : Nat) (hd : 1 ≤ d + 1) : ∀ (n : Nat) (x1 : Int32) (x2 : Int32) (M : SM) (r : Unit) (Mz : SM), qmd_types_L2 n x1 x2 M = some (r, Mz) → Rc (d + 1) 1213 (2, [.ref 280, .int x1, .int x2], [], gm M) (none, gm Mz) := by
  intro n
  induction n with
  | zero => intro x1 x2 M r Mz hs; cases hs
  | succ n ih =>
    intro x1 x2 M r Mz hs
    rw [qmd_types_L2] at hs
    by_cases h2 : x2 < 0
    · rw [if_pos h2] at hs
      refine Rc.goL mt_1213 1 (f2 := (if x2 < 0 then 38 else 6, [.ref 280, .int x1, .int x2], [], gm M)) (b := true) rfl rfl ?_
      rw [if_pos h2]
      obtain ⟨e1, e2⟩ := some_p hs; subst e1; subst e2
      exact Rc.ret (v := none) rfl rfl
    · rw [if_neg h2] at hs
      refine Rc.goL mt_1213 1 (f2 := (if x2 < 0 then 38 else 6, [.ref 280, .int x1, .int x2], [], gm M)) (b := true) rfl rfl ?_
      rw [if_neg h2]
      obtain ⟨hb1, hs⟩ := ck_some hs
      obtain ⟨hb1_0, hb1⟩ := and_t hb1
      refine Rc.goL mt_1213 6 (f2 := (18, [.ref 280, .int x1, .int x2], [.int x2, .int (8 : Int32), .int x1, .int (M.1 280 13), .ref 289], gm M)) (b := true) rfl rfl ?_
      refine Rc.goL mt_1213 3 (f2 := (22, [.ref 280, .int x1, .int x2], [], gm (wI M 289 (Int32.toNatClampNeg (M.1 280 13)) (Int8.toInt32 (Int32.toInt8 (Int8.toInt32 (Int32.toInt8 (x1 >>> (((8 : Int32) * x2) &&& 31))))))))) (b := (ib 200 (M.1 280 13) && true)) rfl (and_i hb1_0 rfl) ?_
      refine Rc.goL mt_1213 5 (f2 := (32, [.ref 280, .int x1, .int x2], [], gm (wI (wI M 289 (Int32.toNatClampNeg (M.1 280 13)) (Int8.toInt32 (Int32.toInt8 (Int8.toInt32 (Int32.toInt8 (x1 >>> (((8 : Int32) * x2) &&& 31))))))) 280 13 ((M.1 280 13) + (1 : Int32))))) (b := true) rfl rfl ?_
      refine Rc.goL mt_1213 1 (f2 := (2, [.ref 280, .int x1, .int (x2 + (-1 : Int32))], [], gm (wI (wI M 289 (Int32.toNatClampNeg (M.1 280 13)) (Int8.toInt32 (Int32.toInt8 (Int8.toInt32 (Int32.toInt8 (x1 >>> (((8 : Int32) * x2) &&& 31))))))) 280 13 ((M.1 280 13) + (1 : Int32))))) (b := true) rfl rfl ?_
      refine Rc.less (ls2 := [.ref 280, .int x1, .int (x2 + (-1 : Int32))]) (by refine ⟨Or.inr rfl, Or.inr rfl, Or.inr rfl, trivial⟩) ?_
      exact ih x1 (x2 + (-1 : Int32)) _ _ _ hs
set_option maxRecDepth 20000 in
theorem qmd_types_ok (d : Nat) (hd : 1 ≤ d) {x1 : Int32} {M : SM} {r : Unit} {Mz : SM} (hs : qmd_types x1 M = some (r, Mz)) : Ex d 1213 [.ref 280, .int x1] (gm M) (none, gm Mz) := by
  obtain ⟨d, rfl⟩ : ∃ d0, d = d0 + 1 := ⟨d - 1, by omega⟩
  refine Ex.of okm_1213 (by omega) (Nat.le_of_ble_eq_true rfl) ?_
  show Rc (d + 1) 1213 (0, [.ref 280, .int x1, UU], [], gm M) _
  unfold qmd_types at hs
  refine Rc.goL mt_1213 1 (f2 := (2, [.ref 280, .int x1, .int (3 : Int32)], [], gm M)) (b := true) rfl rfl ?_
  refine Rc.less (ls2 := [.ref 280, .int x1, .int (3 : Int32)]) (by refine ⟨Or.inr rfl, Or.inr rfl, Or.inr rfl, trivial⟩) ?_
  exact qmd_types_L2_ok d hd _ x1 (3 : Int32) _ _ _ hs
def qmd_feed (x1 : Int32) (x2 : Int32) (x3 : Int32) (x4 : Int32) (x5 : Int32) (M : SM) : Option (Int32 × SM) :=
  if (200 : Int32) < ((M.1 280 13) + (20 : Int32)) then
  (some ((-1 : Int32), M)) else
  (ob (qmd_types x1 M) (fun _ M1 =>
    ob (qmd_types x2 M1) (fun _ M4 =>
    ob (qmd_types x3 M4) (fun _ M7 =>
    ob (qmd_types x4 M7) (fun _ M10 =>
    ob (qmd_types x5 M10) (fun _ M13 =>
    some ((M13.1 280 13), M13)))))))
theorem mt_1214 : MT 1214 K_1214 LN_12 := ⟨rfl, rfl, by decide +kernel⟩
theorem okm_1214 : OKm 1214 := ⟨⟨vE_1214, okL_12, by decide +kernel⟩, by decide +kernel, by decide +kernel, by decide +kernel⟩
set_option maxRecDepth 20000 in
theorem qmd_feed_ok (d : Nat) (hd : 2 ≤ d) {x1 : Int32} {x2 : Int32} {x3 : Int32} {x4 : Int32} {x5 : Int32} {M : SM} {r : Int32} {Mz : SM} (hs : qmd_feed x1 x2 x3 x4 x5 M = some (r, Mz)) : Ex d 1214 [.ref 280, .int x1, .int x2, .int x3, .int x4, .int x5] (gm M) (some (.int r), gm Mz) := by
  obtain ⟨d, rfl⟩ : ∃ d0, d = d0 + 1 := ⟨d - 1, by omega⟩
  refine Ex.of okm_1214 (by omega) (Nat.le_of_ble_eq_true rfl) ?_
  show Rc (d + 1) 1214 (0, [.ref 280, .int x1, .int x2, .int x3, .int x4, .int x5], [], gm M) _
  unfold qmd_feed at hs
  by_cases h16 : (200 : Int32) < ((M.1 280 13) + (20 : Int32))
  · rw [if_pos h16] at hs
    refine Rc.goL mt_1214 5 (f2 := (if (200 : Int32) < ((M.1 280 13) + (20 : Int32)) then 13 else 15, [.ref 280, .int x1, .int x2, .int x3, .int x4, .int x5], [], gm M)) (b := true) rfl rfl ?_
    rw [if_pos h16]
    refine Rc.goL mt_1214 0 (f2 := (14, [.ref 280, .int x1, .int x2, .int x3, .int x4, .int x5], [.int (-1 : Int32)], gm M)) (b := true) rfl rfl ?_
    obtain ⟨e1, e2⟩ := some_p hs; subst e1; subst e2
    exact Rc.ret (v := some (.int (-1 : Int32))) rfl rfl
  · rw [if_neg h16] at hs
    refine Rc.goL mt_1214 5 (f2 := (if (200 : Int32) < ((M.1 280 13) + (20 : Int32)) then 13 else 15, [.ref 280, .int x1, .int x2, .int x3, .int x4, .int x5], [], gm M)) (b := true) rfl rfl ?_
    rw [if_neg h16]
    refine Rc.goL mt_1214 1 (f2 := (17, [.ref 280, .int x1, .int x2, .int x3, .int x4, .int x5], [.int x1, .ref 280], gm M)) (b := true) rfl rfl ?_
    obtain ⟨u3, M1, he2, hs⟩ := ob_some hs
    refine Rc.callV (i := 219) (mid' := 1213) (av := [.int x1]) (rest := []) (v := none) (M1 := gm M1) (a := 280) rfl rfl rfl cw_1213 rfl (Nat.le_of_ble_eq_true rfl) rfl (Nat.le_of_ble_eq_true rfl) (qmd_types_ok _ (by omega) he2) ?_
    refine Rc.goL mt_1214 1 (f2 := (22, [.ref 280, .int x1, .int x2, .int x3, .int x4, .int x5], [.int x2, .ref 280], gm M1)) (b := true) rfl rfl ?_
    obtain ⟨u6, M4, he5, hs⟩ := ob_some hs
    refine Rc.callV (i := 219) (mid' := 1213) (av := [.int x2]) (rest := []) (v := none) (M1 := gm M4) (a := 280) rfl rfl rfl cw_1213 rfl (Nat.le_of_ble_eq_true rfl) rfl (Nat.le_of_ble_eq_true rfl) (qmd_types_ok _ (by omega) he5) ?_
    refine Rc.goL mt_1214 1 (f2 := (27, [.ref 280, .int x1, .int x2, .int x3, .int x4, .int x5], [.int x3, .ref 280], gm M4)) (b := true) rfl rfl ?_
    obtain ⟨u9, M7, he8, hs⟩ := ob_some hs
    refine Rc.callV (i := 219) (mid' := 1213) (av := [.int x3]) (rest := []) (v := none) (M1 := gm M7) (a := 280) rfl rfl rfl cw_1213 rfl (Nat.le_of_ble_eq_true rfl) rfl (Nat.le_of_ble_eq_true rfl) (qmd_types_ok _ (by omega) he8) ?_
    refine Rc.goL mt_1214 1 (f2 := (33, [.ref 280, .int x1, .int x2, .int x3, .int x4, .int x5], [.int x4, .ref 280], gm M7)) (b := true) rfl rfl ?_
    obtain ⟨u12, M10, he11, hs⟩ := ob_some hs
    refine Rc.callV (i := 219) (mid' := 1213) (av := [.int x4]) (rest := []) (v := none) (M1 := gm M10) (a := 280) rfl rfl rfl cw_1213 rfl (Nat.le_of_ble_eq_true rfl) rfl (Nat.le_of_ble_eq_true rfl) (qmd_types_ok _ (by omega) he11) ?_
    refine Rc.goL mt_1214 1 (f2 := (39, [.ref 280, .int x1, .int x2, .int x3, .int x4, .int x5], [.int x5, .ref 280], gm M10)) (b := true) rfl rfl ?_
    obtain ⟨u15, M13, he14, hs⟩ := ob_some hs
    refine Rc.callV (i := 219) (mid' := 1213) (av := [.int x5]) (rest := []) (v := none) (M1 := gm M13) (a := 280) rfl rfl rfl cw_1213 rfl (Nat.le_of_ble_eq_true rfl) rfl (Nat.le_of_ble_eq_true rfl) (qmd_types_ok _ (by omega) he14) ?_
    refine Rc.goL mt_1214 1 (f2 := (46, [.ref 280, .int x1, .int x2, .int x3, .int x4, .int x5], [.int (M13.1 280 13)], gm M13)) (b := true) rfl rfl ?_
    obtain ⟨e1, e2⟩ := some_p hs; subst e1; subst e2
    exact Rc.ret (v := some (.int (M13.1 280 13))) rfl rfl
