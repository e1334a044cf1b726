def qrd_findRing (M : SM) : Option (Unit × SM) :=
  ck (decide (¬ (M.1 3 1) < 0) && true) (
  ck (kc 336 (Int32.toNatClampNeg (M.1 3 1)) 8) (ob (qsh_followNeeds (Int32.toNatClampNeg (M.1 3 1)) M) (fun _ M3 =>
  ck (decide (¬ (M3.1 3 1) < 0) && true) (
  ck (kc 336 (Int32.toNatClampNeg (M3.1 3 1)) 8) (ob (qsh_placeOfRing (Int32.toNatClampNeg (M3.1 3 1)) M3) (fun r8 M9 =>
  if r8 = (-1 : Int32) then
  (ck (decide (¬ (M9.1 3 1) < 0) && true) (
    ck (kc 336 (Int32.toNatClampNeg (M9.1 3 1)) 8) (ob (qsh_putInOrder (Int32.toNatClampNeg (M9.1 3 1)) M9) (fun _ M13 =>
    some ((), M13))))) else
  (some ((), (wI (wI M9 3 4 (6 : Int32)) 3 5 r8)))))))))
theorem mt_709 : MT 709 K_709 LN_7 := ⟨rfl, rfl, by decide +kernel⟩
theorem okm_709 : OKm 709 := ⟨⟨vE_709, okL_7, by decide +kernel⟩, by decide +kernel, by decide +kernel, by decide +kernel⟩
set_option maxRecDepth 20000 in
theorem qrd_findRing_ok (d : Nat) (hd : 4 ≤ d) {M : SM} {r : Unit} {Mz : SM} (hs : qrd_findRing M = some (r, Mz)) : Ex d 709 [.ref 3] (gm M) (none, gm Mz) := by
  obtain ⟨d, rfl⟩ : ∃ d0, d = d0 + 1 := ⟨d - 1, by omega⟩
  refine Ex.of okm_709 (by omega) (Nat.le_of_ble_eq_true rfl) ?_
  show Rc (d + 1) 709 (0, [.ref 3, UU], [], gm M) _
  unfold qrd_findRing at hs
  obtain ⟨hb1, hs⟩ := ck_some hs
  refine Rc.goL mt_709 1 (f2 := (4, [.ref 3, UU], [.ref (Int32.toNatClampNeg (M.1 3 1))], gm M)) (b := (decide (¬ (M.1 3 1) < 0) && true)) rfl hb1 ?_
  obtain ⟨hk2, hs⟩ := ck_some hs
  obtain ⟨u5, M3, he4, hs⟩ := ob_some hs
  refine Rc.callV (i := 83) (mid' := 816) (av := []) (rest := []) (v := none) (M1 := gm M3) (a := (Int32.toNatClampNeg (M.1 3 1))) rfl rfl rfl cw_816 hk2 (Nat.le_of_ble_eq_true rfl) rfl (Nat.le_of_ble_eq_true rfl) (qsh_followNeeds_ok _ (by omega) he4) ?_
  obtain ⟨hb6, hs⟩ := ck_some hs
  refine Rc.goL mt_709 1 (f2 := (11, [.ref 3, UU], [.ref (Int32.toNatClampNeg (M3.1 3 1))], gm M3)) (b := (decide (¬ (M3.1 3 1) < 0) && true)) rfl hb6 ?_
  obtain ⟨hk7, hs⟩ := ck_some hs
  obtain ⟨r8, M9, he10, hs⟩ := ob_some hs
  refine Rc.callV (i := 86) (mid' := 817) (av := []) (rest := []) (v := some (.int r8)) (M1 := gm M9) (a := (Int32.toNatClampNeg (M3.1 3 1))) rfl rfl rfl cw_817 hk7 (Nat.le_of_ble_eq_true rfl) rfl (Nat.le_of_ble_eq_true rfl) (qsh_placeOfRing_ok _ (by omega) he10) ?_
  by_cases h16 : r8 = (-1 : Int32)
  · rw [if_pos h16] at hs
    refine Rc.goL mt_709 3 (f2 := (if r8 = (-1 : Int32) then 32 else 20, [.ref 3, .int r8], [], gm M9)) (b := true) rfl rfl ?_
    rw [if_pos h16]
    obtain ⟨hb11, hs⟩ := ck_some hs
    refine Rc.goL mt_709 1 (f2 := (36, [.ref 3, .int r8], [.ref (Int32.toNatClampNeg (M9.1 3 1))], gm M9)) (b := (decide (¬ (M9.1 3 1) < 0) && true)) rfl hb11 ?_
    obtain ⟨hk12, hs⟩ := ck_some hs
    obtain ⟨u15, M13, he14, hs⟩ := ob_some hs
    refine Rc.callV (i := 89) (mid' := 818) (av := []) (rest := []) (v := none) (M1 := gm M13) (a := (Int32.toNatClampNeg (M9.1 3 1))) rfl rfl rfl cw_818 hk12 (Nat.le_of_ble_eq_true rfl) rfl (Nat.le_of_ble_eq_true rfl) (qsh_putInOrder_ok _ (by omega) he14) ?_
    obtain ⟨e1, e2⟩ := some_p hs; subst e1; subst e2
    exact Rc.ret (v := none) rfl rfl
  · rw [if_neg h16] at hs
    refine Rc.goL mt_709 3 (f2 := (if r8 = (-1 : Int32) then 32 else 20, [.ref 3, .int r8], [], gm M9)) (b := true) rfl rfl ?_
    rw [if_neg h16]
    refine Rc.goL mt_709 2 (f2 := (26, [.ref 3, .int r8], [], gm (wI M9 3 4 (6 : Int32)))) (b := true) rfl rfl ?_
    refine Rc.goL mt_709 2 (f2 := (31, [.ref 3, .int r8], [], gm (wI (wI M9 3 4 (6 : Int32)) 3 5 r8))) (b := true) rfl rfl ?_
    obtain ⟨e1, e2⟩ := some_p hs; subst e1; subst e2
    exact Rc.ret (v := none) rfl rfl
def qrd_expect (x1 : Int32) (M : SM) : Option (Unit × SM) :=
  ob (qrd_next M) (fun r1 M2 =>
  if r1 = x1 then
  (some ((), (wI M2 3 3 ((M2.1 3 3) + (1 : Int32))))) else
  (ob (qrd_fail (1 : Int32) M2) (fun _ M4 =>
    some ((), M4))))
theorem mt_707 : MT 707 K_707 LN_7 := ⟨rfl, rfl, by decide +kernel⟩
theorem okm_707 : OKm 707 := ⟨⟨vE_707, okL_7, by decide +kernel⟩, by decide +kernel, by decide +kernel, by decide +kernel⟩
set_option maxRecDepth 20000 in
theorem qrd_expect_ok (d : Nat) (hd : 3 ≤ d) {x1 : Int32} {M : SM} {r : Unit} {Mz : SM} (hs : qrd_expect x1 M = some (r, Mz)) : Ex d 707 [.ref 3, .int x1] (gm M) (none, gm Mz) := by
  obtain ⟨d, rfl⟩ : ∃ d0, d = d0 + 1 := ⟨d - 1, by omega⟩
  refine Ex.of okm_707 (by omega) (Nat.le_of_ble_eq_true rfl) ?_
  show Rc (d + 1) 707 (0, [.ref 3, .int x1], [], gm M) _
  unfold qrd_expect at hs
  refine Rc.goL mt_707 0 (f2 := (1, [.ref 3, .int x1], [.ref 3], gm M)) (b := true) rfl rfl ?_
  obtain ⟨r1, M2, he3, hs⟩ := ob_some hs
  refine Rc.callV (i := 35) (mid' := 705) (av := []) (rest := []) (v := some (.int r1)) (M1 := gm M2) (a := 3) rfl rfl rfl cw_705 rfl (Nat.le_of_ble_eq_true rfl) rfl (Nat.le_of_ble_eq_true rfl) (qrd_next_ok _ (by omega) he3) ?_
  by_cases h7 : r1 = x1
  · rw [if_pos h7] at hs
    refine Rc.goL mt_707 1 (f2 := (if r1 = x1 then 8 else 21, [.ref 3, .int x1], [], gm M2)) (b := true) rfl rfl ?_
    rw [if_pos h7]
    refine Rc.goL mt_707 5 (f2 := (18, [.ref 3, .int x1], [], gm (wI M2 3 3 ((M2.1 3 3) + (1 : Int32))))) (b := true) rfl rfl ?_
    refine Rc.goL mt_707 0 (f2 := (26, [.ref 3, .int x1], [], gm (wI M2 3 3 ((M2.1 3 3) + (1 : Int32))))) (b := true) rfl rfl ?_
    obtain ⟨e1, e2⟩ := some_p hs; subst e1; subst e2
    exact Rc.ret (v := none) rfl rfl
  · rw [if_neg h7] at hs
    refine Rc.goL mt_707 1 (f2 := (if r1 = x1 then 8 else 21, [.ref 3, .int x1], [], gm M2)) (b := true) rfl rfl ?_
    rw [if_neg h7]
    refine Rc.goL mt_707 1 (f2 := (23, [.ref 3, .int x1], [.int (1 : Int32), .ref 3], gm M2)) (b := true) rfl rfl ?_
    obtain ⟨u6, M4, he5, hs⟩ := ob_some hs
    refine Rc.callV (i := 58) (mid' := 706) (av := [.int (1 : Int32)]) (rest := []) (v := none) (M1 := gm M4) (a := 3) rfl rfl rfl cw_706 rfl (Nat.le_of_ble_eq_true rfl) rfl (Nat.le_of_ble_eq_true rfl) (qrd_fail_ok _ (by omega) he5) ?_
    obtain ⟨e1, e2⟩ := some_p hs; subst e1; subst e2
    exact Rc.ret (v := none) rfl rfl
def qrd_inBrackets (ch : Int32 → SM → Option (Unit × SM)) (x1 : Int32) (M : SM) : Option (Unit × SM) :=
  if x1 < (6 : Int32) then
  (ob (ch (x1 + (1 : Int32)) (wI M 3 3 ((M.1 3 3) + (1 : Int32)))) (fun _ M1 =>
    ob (qrd_expect (41 : Int32) M1) (fun _ M4 =>
    some ((), M4)))) else
  (ob (qrd_fail (5 : Int32) M) (fun _ M7 =>
    some ((), M7)))
theorem mt_716 : MT 716 K_716 LN_7 := ⟨rfl, rfl, by decide +kernel⟩
theorem okm_716 : OKm 716 := ⟨⟨vE_716, okL_7, by decide +kernel⟩, by decide +kernel, by decide +kernel, by decide +kernel⟩
set_option maxRecDepth 20000 in
theorem qrd_inBrackets_ok (ch : Int32 → SM → Option (Unit × SM)) (D : Nat) (hch : ∀ (d : Nat), D ≤ d → ∀ {x1 : Int32} {M : SM} {r : Unit} {Mz : SM}, ch x1 M = some (r, Mz) → Ex d 711 [.ref 3, .int x1] (gm M) (none, gm Mz)) (d : Nat) (hd : D + 4 ≤ d) {x1 : Int32} {M : SM} {r : Unit} {Mz : SM} (hs : qrd_inBrackets ch x1 M = some (r, Mz)) : Ex d 716 [.ref 3, .int x1] (gm M) (none, gm Mz) := by
  obtain ⟨d, rfl⟩ : ∃ d0, d = d0 + 1 := ⟨d - 1, by omega⟩
  refine Ex.of okm_716 (by omega) (Nat.le_of_ble_eq_true rfl) ?_
  show Rc (d + 1) 716 (0, [.ref 3, .int x1], [], gm M) _
  unfold qrd_inBrackets at hs
  by_cases h10 : x1 < (6 : Int32)
  · rw [if_pos h10] at hs
    refine Rc.goL mt_716 2 (f2 := (if x1 < (6 : Int32) then 12 else 6, [.ref 3, .int x1], [], gm M)) (b := true) rfl rfl ?_
    rw [if_pos h10]
    refine Rc.goL mt_716 5 (f2 := (22, [.ref 3, .int x1], [], gm (wI M 3 3 ((M.1 3 3) + (1 : Int32))))) (b := true) rfl rfl ?_
    refine Rc.goL mt_716 3 (f2 := (26, [.ref 3, .int x1], [.int (x1 + (1 : Int32)), .ref 3], gm (wI M 3 3 ((M.1 3 3) + (1 : Int32))))) (b := true) rfl rfl ?_
    obtain ⟨u3, M1, he2, hs⟩ := ob_some hs
    refine Rc.callV (i := 65) (mid' := 711) (av := [.int (x1 + (1 : Int32))]) (rest := []) (v := none) (M1 := gm M1) (a := 3) rfl rfl rfl cw_711 rfl (Nat.le_of_ble_eq_true rfl) rfl (Nat.le_of_ble_eq_true rfl) (hch _ (by omega) he2) ?_
    refine Rc.goL mt_716 1 (f2 := (32, [.ref 3, .int x1], [.int (41 : Int32), .ref 3], gm M1)) (b := true) rfl rfl ?_
    obtain ⟨u6, M4, he5, hs⟩ := ob_some hs
    refine Rc.callV (i := 100) (mid' := 707) (av := [.int (41 : Int32)]) (rest := []) (v := none) (M1 := gm M4) (a := 3) rfl rfl rfl cw_707 rfl (Nat.le_of_ble_eq_true rfl) rfl (Nat.le_of_ble_eq_true rfl) (qrd_expect_ok _ (by omega) he5) ?_
    obtain ⟨e1, e2⟩ := some_p hs; subst e1; subst e2
    exact Rc.ret (v := none) rfl rfl
  · rw [if_neg h10] at hs
    refine Rc.goL mt_716 2 (f2 := (if x1 < (6 : Int32) then 12 else 6, [.ref 3, .int x1], [], gm M)) (b := true) rfl rfl ?_
    rw [if_neg h10]
    refine Rc.goL mt_716 1 (f2 := (8, [.ref 3, .int x1], [.int (5 : Int32), .ref 3], gm M)) (b := true) rfl rfl ?_
    obtain ⟨u9, M7, he8, hs⟩ := ob_some hs
    refine Rc.callV (i := 58) (mid' := 706) (av := [.int (5 : Int32)]) (rest := []) (v := none) (M1 := gm M7) (a := 3) rfl rfl rfl cw_706 rfl (Nat.le_of_ble_eq_true rfl) rfl (Nat.le_of_ble_eq_true rfl) (qrd_fail_ok _ (by omega) he8) ?_
    obtain ⟨e1, e2⟩ := some_p hs; subst e1; subst e2
    exact Rc.ret (v := none) rfl rfl
def qsh_put (s : Nat) (x1 : Int32) (x2 : Int32) (M : SM) : Option (Unit × SM) :=
  ck (kc 336 s 8 && true) (
  if (M.1 s 2) < 0 then
  (some ((), M)) else
  (ck (kc 336 s 8 && ((kc 336 s 8 && decide (R0 s 0 = some (s + 1))) && ((Nat.blt 19 (K0 (s + 1)) && Nat.blt (K0 (s + 1)) 28 && Nat.blt (s + 1) 336) && true))) (
    if (M.1 s 2) < (Int32.ofNat (Z0 (s + 1))) then
    (ck (kc 336 s 8 && ((kc 336 s 8 && decide (R0 s 1 = some (s + 2))) && ((Nat.blt 19 (K0 (s + 2)) && Nat.blt (K0 (s + 2)) 28 && Nat.blt (s + 2) 336) && true))) (
      if (M.1 s 2) < (Int32.ofNat (Z0 (s + 2))) then
      (ck ((kc 336 s 8 && decide (R0 s 0 = some (s + 1))) && (kc 336 s 8 && (av 336 23 (s + 1) (M.1 s 2) && ((kc 336 s 8 && decide (R0 s 1 = some (s + 2))) && (kc 336 s 8 && (av 336 20 (s + 2) ((wI M (s + 1) (Int32.toNatClampNeg (M.1 s 2)) (i2c' x1)).1 s 2) && (kc 336 s 8 && (kc 336 s 8 && true)))))))) (
        some ((), (wI (wI (wI M (s + 1) (Int32.toNatClampNeg (M.1 s 2)) (i2c' x1)) (s + 2) (Int32.toNatClampNeg ((wI M (s + 1) (Int32.toNatClampNeg (M.1 s 2)) (i2c' x1)).1 s 2)) x2) s 2 (((wI (wI M (s + 1) (Int32.toNatClampNeg (M.1 s 2)) (i2c' x1)) (s + 2) (Int32.toNatClampNeg ((wI M (s + 1) (Int32.toNatClampNeg (M.1 s 2)) (i2c' x1)).1 s 2)) x2).1 s 2) + (1 : Int32)))))) else
      (some ((), M)))) else
    (some ((), M)))))
theorem mt_802 : MT 802 K_802 LN_8 := ⟨rfl, rfl, by decide +kernel⟩
theorem okm_802 : OKm 802 := ⟨⟨vE_802, okL_8, by decide +kernel⟩, by decide +kernel, by decide +kernel, by decide +kernel⟩
set_option maxRecDepth 20000 in
theorem qsh_put_ok (d : Nat) (hd : 1 ≤ d) {s : Nat} {x1 : Int32} {x2 : Int32} {M : SM} {r : Unit} {Mz : SM} (hs : qsh_put s x1 x2 M = some (r, Mz)) : Ex d 802 [.ref s, .int x1, .int x2] (gm M) (none, gm Mz) := by
  obtain ⟨d, rfl⟩ : ∃ d0, d = d0 + 1 := ⟨d - 1, by omega⟩
  refine Ex.of okm_802 (by omega) (Nat.le_of_ble_eq_true rfl) ?_
  show Rc (d + 1) 802 (0, [.ref s, .int x1, .int x2], [], gm M) _
  unfold qsh_put at hs
  obtain ⟨hb1, hs⟩ := ck_some hs
  by_cases h7 : (M.1 s 2) < 0
  · rw [if_pos h7] at hs
    refine Rc.goL mt_802 2 (f2 := (if (M.1 s 2) < 0 then 31 else 7, [.ref s, .int x1, .int x2], [], gm M)) (b := (kc 336 s 8 && true)) rfl hb1 ?_
    rw [if_pos h7]
    obtain ⟨e1, e2⟩ := some_p hs; subst e1; subst e2
    exact Rc.ret (v := none) rfl rfl
  · rw [if_neg h7] at hs
    refine Rc.goL mt_802 2 (f2 := (if (M.1 s 2) < 0 then 31 else 7, [.ref s, .int x1, .int x2], [], gm M)) (b := (kc 336 s 8 && true)) rfl hb1 ?_
    rw [if_neg h7]
    obtain ⟨hb2, hs⟩ := ck_some hs
    by_cases h6 : (M.1 s 2) < (Int32.ofNat (Z0 (s + 1)))
    · rw [if_pos h6] at hs
      refine Rc.goL mt_802 5 (f2 := (if (M.1 s 2) < (Int32.ofNat (Z0 (s + 1))) then 19 else 31, [.ref s, .int x1, .int x2], [], gm M)) (b := (kc 336 s 8 && ((kc 336 s 8 && decide (R0 s 0 = some (s + 1))) && ((Nat.blt 19 (K0 (s + 1)) && Nat.blt (K0 (s + 1)) 28 && Nat.blt (s + 1) 336) && true)))) rfl hb2 ?_
      rw [if_pos h6]
      obtain ⟨hb3, hs⟩ := ck_some hs
      by_cases h5 : (M.1 s 2) < (Int32.ofNat (Z0 (s + 2)))
      · rw [if_pos h5] at hs
        refine Rc.goL mt_802 5 (f2 := (if (M.1 s 2) < (Int32.ofNat (Z0 (s + 2))) then 32 else 31, [.ref s, .int x1, .int x2], [], gm M)) (b := (kc 336 s 8 && ((kc 336 s 8 && decide (R0 s 1 = some (s + 2))) && ((Nat.blt 19 (K0 (s + 2)) && Nat.blt (K0 (s + 2)) 28 && Nat.blt (s + 2) 336) && true)))) rfl hb3 ?_
        rw [if_pos h5]
        obtain ⟨hb4, hs⟩ := ck_some hs
        obtain ⟨hb4_0, hb4⟩ := and_t hb4
        obtain ⟨hb4_1, hb4⟩ := and_t hb4
        obtain ⟨hb4_2, hb4⟩ := and_t hb4
        obtain ⟨hb4_3, hb4⟩ := and_t hb4
        obtain ⟨hb4_4, hb4⟩ := and_t hb4
        obtain ⟨hb4_5, hb4⟩ := and_t hb4
        obtain ⟨hb4_6, hb4⟩ := and_t hb4
        obtain ⟨hb4_7, hb4⟩ := and_t hb4
        refine Rc.goL mt_802 5 (f2 := (42, [.ref s, .int x1, .int x2], [], gm (wI M (s + 1) (Int32.toNatClampNeg (M.1 s 2)) (i2c' x1)))) (b := ((kc 336 s 8 && decide (R0 s 0 = some (s + 1))) && (kc 336 s 8 && (av 336 23 (s + 1) (M.1 s 2) && true)))) rfl (and_i hb4_0 (and_i hb4_1 (and_i hb4_2 rfl))) ?_
        refine Rc.goL mt_802 5 (f2 := (52, [.ref s, .int x1, .int x2], [], gm (wI (wI M (s + 1) (Int32.toNatClampNeg (M.1 s 2)) (i2c' x1)) (s + 2) (Int32.toNatClampNeg ((wI M (s + 1) (Int32.toNatClampNeg (M.1 s 2)) (i2c' x1)).1 s 2)) x2))) (b := ((kc 336 s 8 && decide (R0 s 1 = some (s + 2))) && (kc 336 s 8 && (av 336 20 (s + 2) ((wI M (s + 1) (Int32.toNatClampNeg (M.1 s 2)) (i2c' x1)).1 s 2) && true)))) rfl (and_i hb4_3 (and_i hb4_4 (and_i hb4_5 rfl))) ?_
        refine Rc.goL mt_802 5 (f2 := (62, [.ref s, .int x1, .int x2], [], gm (wI (wI (wI M (s + 1) (Int32.toNatClampNeg (M.1 s 2)) (i2c' x1)) (s + 2) (Int32.toNatClampNeg ((wI M (s + 1) (Int32.toNatClampNeg (M.1 s 2)) (i2c' x1)).1 s 2)) x2) s 2 (((wI (wI M (s + 1) (Int32.toNatClampNeg (M.1 s 2)) (i2c' x1)) (s + 2) (Int32.toNatClampNeg ((wI M (s + 1) (Int32.toNatClampNeg (M.1 s 2)) (i2c' x1)).1 s 2)) x2).1 s 2) + (1 : Int32))))) (b := (kc 336 s 8 && (kc 336 s 8 && true))) rfl (and_i hb4_6 (and_i hb4_7 rfl)) ?_
        obtain ⟨e1, e2⟩ := some_p hs; subst e1; subst e2
        exact Rc.ret (v := none) rfl rfl
      · rw [if_neg h5] at hs
        refine Rc.goL mt_802 5 (f2 := (if (M.1 s 2) < (Int32.ofNat (Z0 (s + 2))) then 32 else 31, [.ref s, .int x1, .int x2], [], gm M)) (b := (kc 336 s 8 && ((kc 336 s 8 && decide (R0 s 1 = some (s + 2))) && ((Nat.blt 19 (K0 (s + 2)) && Nat.blt (K0 (s + 2)) 28 && Nat.blt (s + 2) 336) && true)))) rfl hb3 ?_
        rw [if_neg h5]
        obtain ⟨e1, e2⟩ := some_p hs; subst e1; subst e2
        exact Rc.ret (v := none) rfl rfl
    · rw [if_neg h6] at hs
      refine Rc.goL mt_802 5 (f2 := (if (M.1 s 2) < (Int32.ofNat (Z0 (s + 1))) then 19 else 31, [.ref s, .int x1, .int x2], [], gm M)) (b := (kc 336 s 8 && ((kc 336 s 8 && decide (R0 s 0 = some (s + 1))) && ((Nat.blt 19 (K0 (s + 1)) && Nat.blt (K0 (s + 1)) 28 && Nat.blt (s + 1) 336) && true)))) rfl hb2 ?_
      rw [if_neg h6]
      obtain ⟨e1, e2⟩ := some_p hs; subst e1; subst e2
      exact Rc.ret (v := none) rfl rfl
def qrd_fact (x1 : Int32) (M : SM) : Option (Unit × SM) :=
  jn (fun (t1 : Int32) (M2 : SM) =>
    if t1 < 0 then
      (ob (qrd_fail (1 : Int32) M2) (fun _ M3 =>
        some ((), M3))) else
      (ck (decide (¬ (M2.1 3 1) < 0) && true) (
        ck (kc 336 (Int32.toNatClampNeg (M2.1 3 1)) 8) (ob (qsh_put (Int32.toNatClampNeg (M2.1 3 1)) (102 : Int32) t1 M2) (fun _ M8 =>
        some ((), (wI M8 3 3 ((M8.1 3 3) + (1 : Int32))))))))) (fun j12 =>
  if x1 = (-1 : Int32) then
  (j12 (-1 : Int32) M) else
  (ck ((decide (¬ (i2c' x1) < 0) && decide ((i2c' x1) < 256)) && true) (
    j12 (fsi (i2c' x1)) M)))
theorem mt_717 : MT 717 K_717 LN_7 := ⟨rfl, rfl, by decide +kernel⟩
theorem okm_717 : OKm 717 := ⟨⟨vE_717, okL_7, by decide +kernel⟩, by decide +kernel, by decide +kernel, by decide +kernel⟩
set_option maxRecDepth 20000 in
theorem qrd_fact_ok (d : Nat) (hd : 2 ≤ d) {x1 : Int32} {M : SM} {r : Unit} {Mz : SM} (hs : qrd_fact x1 M = some (r, Mz)) : Ex d 717 [.ref 3, .int x1] (gm M) (none, gm Mz) := by
  obtain ⟨d, rfl⟩ : ∃ d0, d = d0 + 1 := ⟨d - 1, by omega⟩
  refine Ex.of okm_717 (by omega) (Nat.le_of_ble_eq_true rfl) ?_
  show Rc (d + 1) 717 (0, [.ref 3, .int x1, UU], [], gm M) _
  unfold qrd_fact at hs
  refine jn_e (P := fun (j : Int32 → SM → Option (Unit × SM)) => ∀ (t1 : Int32) (M2 : SM) (r : Unit) (Mz : SM), j t1 M2 = some (r, Mz) → Rc (d + 1) 717 (16, [.ref 3, UU, UU], [.int t1], gm M2) (none, gm Mz)) hs ?_ (fun j12 Hj12 hs => ?_)
  · intro t1 M2 r Mz hs
    try dsimp only at hs
    by_cases h11 : t1 < 0
    · rw [if_pos h11] at hs
      refine Rc.goL mt_717 2 (f2 := (if t1 < 0 then 21 else 27, [.ref 3, UU, .int t1], [], gm M2)) (b := true) rfl rfl ?_
      rw [if_pos h11]
      refine Rc.goL mt_717 1 (f2 := (23, [.ref 3, UU, .int t1], [.int (1 : Int32), .ref 3], gm M2)) (b := true) rfl rfl ?_
      obtain ⟨u5, M3, he4, hs⟩ := ob_some hs
      refine Rc.callV (i := 58) (mid' := 706) (av := [.int (1 : Int32)]) (rest := []) (v := none) (M1 := gm M3) (a := 3) rfl rfl rfl cw_706 rfl (Nat.le_of_ble_eq_true rfl) rfl (Nat.le_of_ble_eq_true rfl) (qrd_fail_ok _ (by omega) he4) ?_
      obtain ⟨e1, e2⟩ := some_p hs; subst e1; subst e2
      exact Rc.ret (v := none) rfl rfl
    · rw [if_neg h11] at hs
      refine Rc.goL mt_717 2 (f2 := (if t1 < 0 then 21 else 27, [.ref 3, UU, .int t1], [], gm M2)) (b := true) rfl rfl ?_
      rw [if_neg h11]
      obtain ⟨hb6, hs⟩ := ck_some hs
      refine Rc.goL mt_717 3 (f2 := (34, [.ref 3, UU, .int t1], [.int t1, .int (102 : Int32), .ref (Int32.toNatClampNeg (M2.1 3 1))], gm M2)) (b := (decide (¬ (M2.1 3 1) < 0) && true)) rfl hb6 ?_
      obtain ⟨hk7, hs⟩ := ck_some hs
      obtain ⟨u10, M8, he9, hs⟩ := ob_some hs
      refine Rc.callV (i := 107) (mid' := 802) (av := [.int (102 : Int32), .int t1]) (rest := []) (v := none) (M1 := gm M8) (a := (Int32.toNatClampNeg (M2.1 3 1))) rfl rfl rfl cw_802 hk7 (Nat.le_of_ble_eq_true rfl) rfl (Nat.le_of_ble_eq_true rfl) (qsh_put_ok _ (by omega) he9) ?_
      refine Rc.goL mt_717 5 (f2 := (47, [.ref 3, UU, .int t1], [], gm (wI M8 3 3 ((M8.1 3 3) + (1 : Int32))))) (b := true) rfl rfl ?_
      obtain ⟨e1, e2⟩ := some_p hs; subst e1; subst e2
      exact Rc.ret (v := none) rfl rfl
  by_cases h14 : x1 = (-1 : Int32)
  · rw [if_pos h14] at hs
    refine Rc.goL mt_717 2 (f2 := (if x1 = (-1 : Int32) then 5 else 9, [.ref 3, .int x1, UU], [], gm M)) (b := true) rfl rfl ?_
    rw [if_pos h14]
    refine Rc.goL mt_717 1 (f2 := (16, [.ref 3, .int x1, UU], [.int (-1 : Int32)], gm M)) (b := true) rfl rfl ?_
    refine Rc.less (ls2 := [.ref 3, UU, UU]) (by refine ⟨Or.inr rfl, Or.inl rfl, Or.inl rfl, trivial⟩) ?_
    exact Hj12 (-1 : Int32) _ _ _ hs
  · rw [if_neg h14] at hs
    refine Rc.goL mt_717 2 (f2 := (if x1 = (-1 : Int32) then 5 else 9, [.ref 3, .int x1, UU], [], gm M)) (b := true) rfl rfl ?_
    rw [if_neg h14]
    obtain ⟨hb13, hs⟩ := ck_some hs
    refine Rc.goL mt_717 3 (f2 := (16, [.ref 3, .int x1, UU], [.int (fsi (i2c' x1))], gm M)) (b := ((decide (¬ (i2c' x1) < 0) && decide ((i2c' x1) < 256)) && true)) rfl hb13 ?_
    refine Rc.less (ls2 := [.ref 3, UU, UU]) (by refine ⟨Or.inr rfl, Or.inl rfl, Or.inl rfl, trivial⟩) ?_
    exact Hj12 (fsi (i2c' x1)) _ _ _ hs
def qrd_isDigit (x0 : Int32) (M : SM) : Option (Int32 × SM) :=
  if x0 < (48 : Int32) then
  (some ((0 : Int32), M)) else
  (if (57 : Int32) < x0 then
    (some ((0 : Int32), M)) else
    (some ((1 : Int32), M)))
theorem mt_719 : MT 719 K_719 LN_7 := ⟨rfl, rfl, by decide +kernel⟩
theorem okm_719 : OKm 719 := ⟨⟨vE_719, okL_7, by decide +kernel⟩, by decide +kernel, by decide +kernel, by decide +kernel⟩
set_option maxRecDepth 20000 in
theorem qrd_isDigit_ok (d : Nat) (hd : 1 ≤ d) {x0 : Int32} {M : SM} {r : Int32} {Mz : SM} (hs : qrd_isDigit x0 M = some (r, Mz)) : Ex d 719 [.int x0] (gm M) (some (.int r), gm Mz) := by
  obtain ⟨d, rfl⟩ : ∃ d0, d = d0 + 1 := ⟨d - 1, by omega⟩
  refine Ex.of okm_719 (by omega) (Nat.le_of_ble_eq_true rfl) ?_
  show Rc (d + 1) 719 (0, [.int x0], [], gm M) _
  unfold qrd_isDigit at hs
  by_cases h2 : x0 < (48 : Int32)
  · rw [if_pos h2] at hs
    refine Rc.goL mt_719 2 (f2 := (if x0 < (48 : Int32) then 16 else 6, [.int x0], [], gm M)) (b := true) rfl rfl ?_
    rw [if_pos h2]
    refine Rc.goL mt_719 0 (f2 := (17, [.int x0], [.int (0 : Int32)], gm M)) (b := true) rfl rfl ?_
    obtain ⟨e1, e2⟩ := some_p hs; subst e1; subst e2
    exact Rc.ret (v := some (.int (0 : Int32))) rfl rfl
  · rw [if_neg h2] at hs
    refine Rc.goL mt_719 2 (f2 := (if x0 < (48 : Int32) then 16 else 6, [.int x0], [], gm M)) (b := true) rfl rfl ?_
    rw [if_neg h2]
    by_cases h1 : (57 : Int32) < x0
    · rw [if_pos h1] at hs
      refine Rc.goL mt_719 2 (f2 := (if (57 : Int32) < x0 then 16 else 12, [.int x0], [], gm M)) (b := true) rfl rfl ?_
      rw [if_pos h1]
      refine Rc.goL mt_719 0 (f2 := (17, [.int x0], [.int (0 : Int32)], gm M)) (b := true) rfl rfl ?_
      obtain ⟨e1, e2⟩ := some_p hs; subst e1; subst e2
      exact Rc.ret (v := some (.int (0 : Int32))) rfl rfl
    · rw [if_neg h1] at hs
      refine Rc.goL mt_719 2 (f2 := (if (57 : Int32) < x0 then 16 else 12, [.int x0], [], gm M)) (b := true) rfl rfl ?_
      rw [if_neg h1]
      refine Rc.goL mt_719 1 (f2 := (17, [.int x0], [.int (1 : Int32)], gm M)) (b := true) rfl rfl ?_
      obtain ⟨e1, e2⟩ := some_p hs; subst e1; subst e2
      exact Rc.ret (v := some (.int (1 : Int32))) rfl rfl
def qrd_digits_L4 (k49 : Int32 → SM → Option (Unit × SM)) : Nat → Int32 → Int32 → SM → Option (Unit × SM)
  | 0, _, _, _ => none
  | n + 1, x1, x2, M =>
    if x2 < (6 : Int32) then
    (ob (qrd_next M) (fun r1 M2 =>
      ob (qrd_isDigit r1 M2) (fun r4 M5 =>
      if r4 = 0 then
      (k49 x1 M5) else
      (ob (qrd_next M5) (fun r7 M8 =>
        qrd_digits_L4 k49 n ((((10 : Int32) * x1) + r7) - (48 : Int32)) (x2 + (1 : Int32)) (wI M8 3 3 ((M8.1 3 3) + (1 : Int32)))))))) else
    (k49 x1 M)
def qrd_digits (M : SM) : Option (Unit × SM) :=
  qrd_digits_L4 (fun y1_12 M13 =>
  ob (qrd_next M13) (fun r14 M15 =>
    ob (qrd_isDigit r14 M15) (fun r17 M18 =>
    jn (fun (x1_20 : Int32) (M21 : SM) =>
      ck (decide (¬ (M21.1 3 1) < 0) && true) (
        ck (kc 336 (Int32.toNatClampNeg (M21.1 3 1)) 8) (ob (qsh_put (Int32.toNatClampNeg (M21.1 3 1)) (48 : Int32) x1_20 M21) (fun _ M24 =>
        some ((), M24))))) (fun j27 =>
    if r17 = 0 then
    (j27 y1_12 M18) else
    (ob (qrd_fail (2 : Int32) M18) (fun _ M28 =>
      j27 y1_12 M28)))))) FU (0 : Int32) (0 : Int32) M
theorem mt_718 : MT 718 K_718 LN_7 := ⟨rfl, rfl, by decide +kernel⟩
theorem okm_718 : OKm 718 := ⟨⟨vE_718, okL_7, by decide +kernel⟩, by decide +kernel, by decide +kernel, by decide +kernel⟩
set_option maxRecDepth 20000 in
theorem qrd_digits_L4_ok (d : Nat) (hd : 3 ≤ d + 1) (k49 : Int32 → SM → Option (Unit × SM)) (hk49 : ∀ (y1 : Int32) (M : SM) (r : Unit) (Mz : SM), k49 y1 M = some (r, Mz) → Rc (d + 1) 718 (49, [.ref 3, .int y1, UU], [], gm M) (none, gm Mz)) : ∀ (n : Nat) (x1 : Int32) (x2 : Int32) (M : SM) (r : Unit) (Mz : SM), qrd_digits_L4 k49 n x1 x2 M = some (r, Mz) → Rc (d + 1) 718 (4, [.ref 3, .int x1, .int x2], [], gm M) (none, gm Mz) := by
  intro n
  induction n with
  | zero => intro x1 x2 M r Mz hs; cases hs
  | succ n ih =>
    intro x1 x2 M r Mz hs
    rw [qrd_digits_L4] at hs
    by_cases h11 : x2 < (6 : Int32)
    · rw [if_pos h11] at hs
      refine Rc.goL mt_718 2 (f2 := (if x2 < (6 : Int32) then 10 else 49, [.ref 3, .int x1, .int x2], [], gm M)) (b := true) rfl rfl ?_
      rw [if_pos h11]
      refine Rc.goL mt_718 0 (f2 := (11, [.ref 3, .int x1, .int x2], [.ref 3], gm M)) (b := true) rfl rfl ?_
      obtain ⟨r1, M2, he3, hs⟩ := ob_some hs
      refine Rc.callV (i := 35) (mid' := 705) (av := []) (rest := []) (v := some (.int r1)) (M1 := gm M2) (a := 3) rfl rfl rfl cw_705 rfl (Nat.le_of_ble_eq_true rfl) rfl (Nat.le_of_ble_eq_true rfl) (qrd_next_ok _ (by omega) he3) ?_
      obtain ⟨r4, M5, he6, hs⟩ := ob_some hs
      refine Rc.callS (i := 123) (mid' := 719) (av := [.int r1]) (rest := []) (v := some (.int r4)) (M1 := gm M5) rfl (Or.inl rfl) rfl cw_719 rfl (Nat.le_of_ble_eq_true rfl) (qrd_isDigit_ok _ (by omega) he6) ?_
      by_cases h10 : r4 = 0
      · rw [if_pos h10] at hs
        refine Rc.goL mt_718 0 (f2 := (if r4 = 0 then 49 else 20, [.ref 3, .int x1, .int x2], [], gm M5)) (b := true) rfl rfl ?_
        rw [if_pos h10]
        refine Rc.less (ls2 := [.ref 3, .int x1, UU]) (by refine ⟨Or.inr rfl, Or.inr rfl, Or.inl rfl, trivial⟩) ?_
        exact hk49 x1 _ _ _ hs
      · rw [if_neg h10] at hs
        refine Rc.goL mt_718 0 (f2 := (if r4 = 0 then 49 else 20, [.ref 3, .int x1, .int x2], [], gm M5)) (b := true) rfl rfl ?_
        rw [if_neg h10]
        refine Rc.goL mt_718 3 (f2 := (25, [.ref 3, .int x1, .int x2], [.ref 3, .int ((10 : Int32) * x1)], gm M5)) (b := true) rfl rfl ?_
        obtain ⟨r7, M8, he9, hs⟩ := ob_some hs
        refine Rc.callV (i := 35) (mid' := 705) (av := []) (rest := [.int ((10 : Int32) * x1)]) (v := some (.int r7)) (M1 := gm M8) (a := 3) rfl rfl rfl cw_705 rfl (Nat.le_of_ble_eq_true rfl) rfl (Nat.le_of_ble_eq_true rfl) (qrd_next_ok _ (by omega) he9) ?_
        refine Rc.goL mt_718 6 (f2 := (38, [.ref 3, .int ((((10 : Int32) * x1) + r7) - (48 : Int32)), .int x2], [.int (M8.1 3 3), .ref 3], gm M8)) (b := true) rfl rfl ?_
        refine Rc.goL mt_718 2 (f2 := (43, [.ref 3, .int ((((10 : Int32) * x1) + r7) - (48 : Int32)), .int x2], [], gm (wI M8 3 3 ((M8.1 3 3) + (1 : Int32))))) (b := true) rfl rfl ?_
        refine Rc.goL mt_718 1 (f2 := (4, [.ref 3, .int ((((10 : Int32) * x1) + r7) - (48 : Int32)), .int (x2 + (1 : Int32))], [], gm (wI M8 3 3 ((M8.1 3 3) + (1 : Int32))))) (b := true) rfl rfl ?_
        refine Rc.less (ls2 := [.ref 3, .int ((((10 : Int32) * x1) + r7) - (48 : Int32)), .int (x2 + (1 : Int32))]) (by refine ⟨Or.inr rfl, Or.inr rfl, Or.inr rfl, trivial⟩) ?_
        exact ih ((((10 : Int32) * x1) + r7) - (48 : Int32)) (x2 + (1 : Int32)) _ _ _ hs
    · rw [if_neg h11] at hs
      refine Rc.goL mt_718 2 (f2 := (if x2 < (6 : Int32) then 10 else 49, [.ref 3, .int x1, .int x2], [], gm M)) (b := true) rfl rfl ?_
      rw [if_neg h11]
      refine Rc.less (ls2 := [.ref 3, .int x1, UU]) (by refine ⟨Or.inr rfl, Or.inr rfl, Or.inl rfl, trivial⟩) ?_
      exact hk49 x1 _ _ _ hs
set_option maxRecDepth 20000 in
theorem qrd_digits_ok (d : Nat) (hd : 3 ≤ d) {M : SM} {r : Unit} {Mz : SM} (hs : qrd_digits M = some (r, Mz)) : Ex d 718 [.ref 3] (gm M) (none, gm Mz) := by
  obtain ⟨d, rfl⟩ : ∃ d0, d = d0 + 1 := ⟨d - 1, by omega⟩
  refine Ex.of okm_718 (by omega) (Nat.le_of_ble_eq_true rfl) ?_
  show Rc (d + 1) 718 (0, [.ref 3, UU, UU], [], gm M) _
  unfold qrd_digits at hs
  refine Rc.goL mt_718 3 (f2 := (4, [.ref 3, .int (0 : Int32), .int (0 : Int32)], [], gm M)) (b := true) rfl rfl ?_
  refine Rc.less (ls2 := [.ref 3, .int (0 : Int32), .int (0 : Int32)]) (by refine ⟨Or.inr rfl, Or.inr rfl, Or.inr rfl, trivial⟩) ?_
  refine qrd_digits_L4_ok d hd _ (fun y1_12 M13 r Mz hs => ?_) _ (0 : Int32) (0 : Int32) _ _ _ hs
  · refine Rc.goL mt_718 0 (f2 := (50, [.ref 3, .int y1_12, UU], [.ref 3], gm M13)) (b := true) rfl rfl ?_
    obtain ⟨r14, M15, he16, hs⟩ := ob_some hs
    refine Rc.callV (i := 35) (mid' := 705) (av := []) (rest := []) (v := some (.int r14)) (M1 := gm M15) (a := 3) rfl rfl rfl cw_705 rfl (Nat.le_of_ble_eq_true rfl) rfl (Nat.le_of_ble_eq_true rfl) (qrd_next_ok _ (by omega) he16) ?_
    obtain ⟨r17, M18, he19, hs⟩ := ob_some hs
    refine Rc.callS (i := 123) (mid' := 719) (av := [.int r14]) (rest := []) (v := some (.int r17)) (M1 := gm M18) rfl (Or.inl rfl) rfl cw_719 rfl (Nat.le_of_ble_eq_true rfl) (qrd_isDigit_ok _ (by omega) he19) ?_
    refine jn_e (P := fun (j : Int32 → SM → Option (Unit × SM)) => ∀ (x1_20 : Int32) (M21 : SM) (r : Unit) (Mz : SM), j x1_20 M21 = some (r, Mz) → Rc (d + 1) 718 (64, [.ref 3, .int x1_20, UU], [], gm M21) (none, gm Mz)) hs ?_ (fun j27 Hj27 hs => ?_)
    · intro x1_20 M21 r Mz hs
      try dsimp only at hs
      obtain ⟨hb22, hs⟩ := ck_some hs
      refine Rc.goL mt_718 3 (f2 := (71, [.ref 3, .int x1_20, UU], [.int x1_20, .int (48 : Int32), .ref (Int32.toNatClampNeg (M21.1 3 1))], gm M21)) (b := (decide (¬ (M21.1 3 1) < 0) && true)) rfl hb22 ?_
      obtain ⟨hk23, hs⟩ := ck_some hs
      obtain ⟨u26, M24, he25, hs⟩ := ob_some hs
      refine Rc.callV (i := 107) (mid' := 802) (av := [.int (48 : Int32), .int x1_20]) (rest := []) (v := none) (M1 := gm M24) (a := (Int32.toNatClampNeg (M21.1 3 1))) rfl rfl rfl cw_802 hk23 (Nat.le_of_ble_eq_true rfl) rfl (Nat.le_of_ble_eq_true rfl) (qsh_put_ok _ (by omega) he25) ?_
      obtain ⟨e1, e2⟩ := some_p hs; subst e1; subst e2
      exact Rc.ret (v := none) rfl rfl
    by_cases h31 : r17 = 0
    · rw [if_pos h31] at hs
      refine Rc.goL mt_718 0 (f2 := (if r17 = 0 then 64 else 59, [.ref 3, .int y1_12, UU], [], gm M18)) (b := true) rfl rfl ?_
      rw [if_pos h31]
      refine Rc.less (ls2 := [.ref 3, .int y1_12, UU]) (by refine ⟨Or.inr rfl, Or.inr rfl, Or.inl rfl, trivial⟩) ?_
      exact Hj27 y1_12 _ _ _ hs
    · rw [if_neg h31] at hs
      refine Rc.goL mt_718 0 (f2 := (if r17 = 0 then 64 else 59, [.ref 3, .int y1_12, UU], [], gm M18)) (b := true) rfl rfl ?_
      rw [if_neg h31]
      refine Rc.goL mt_718 1 (f2 := (61, [.ref 3, .int y1_12, UU], [.int (2 : Int32), .ref 3], gm M18)) (b := true) rfl rfl ?_
      obtain ⟨u30, M28, he29, hs⟩ := ob_some hs
      refine Rc.callV (i := 58) (mid' := 706) (av := [.int (2 : Int32)]) (rest := []) (v := none) (M1 := gm M28) (a := 3) rfl rfl rfl cw_706 rfl (Nat.le_of_ble_eq_true rfl) rfl (Nat.le_of_ble_eq_true rfl) (qrd_fail_ok _ (by omega) he29) ?_
      refine Rc.less (ls2 := [.ref 3, .int y1_12, UU]) (by refine ⟨Or.inr rfl, Or.inr rfl, Or.inl rfl, trivial⟩) ?_
      exact Hj27 y1_12 _ _ _ hs
def qsh_hasRoom (s : Nat) (M : SM) : Option (Int32 × SM) :=
  ck (kc 336 s 8 && true) (
  if (M.1 s 3) < 0 then
  (some ((0 : Int32), M)) else
  (ck (kc 336 s 8 && true) (
    if (M.1 s 3) < (10 : Int32) then
    (some ((1 : Int32), M)) else
    (some ((0 : Int32), M)))))
theorem mt_806 : MT 806 K_806 LN_8 := ⟨rfl, rfl, by decide +kernel⟩
theorem okm_806 : OKm 806 := ⟨⟨vE_806, okL_8, by decide +kernel⟩, by decide +kernel, by decide +kernel, by decide +kernel⟩
set_option maxRecDepth 20000 in
theorem qsh_hasRoom_ok (d : Nat) (hd : 1 ≤ d) {s : Nat} {M : SM} {r : Int32} {Mz : SM} (hs : qsh_hasRoom s M = some (r, Mz)) : Ex d 806 [.ref s] (gm M) (some (.int r), gm Mz) := by
  obtain ⟨d, rfl⟩ : ∃ d0, d = d0 + 1 := ⟨d - 1, by omega⟩
  refine Ex.of okm_806 (by omega) (Nat.le_of_ble_eq_true rfl) ?_
  show Rc (d + 1) 806 (0, [.ref s], [], gm M) _
  unfold qsh_hasRoom at hs
  obtain ⟨hb1, hs⟩ := ck_some hs
  by_cases h4 : (M.1 s 3) < 0
  · rw [if_pos h4] at hs
    refine Rc.goL mt_806 2 (f2 := (if (M.1 s 3) < 0 then 20 else 7, [.ref s], [], gm M)) (b := (kc 336 s 8 && true)) rfl hb1 ?_
    rw [if_pos h4]
    refine Rc.goL mt_806 0 (f2 := (21, [.ref s], [.int (0 : Int32)], gm M)) (b := true) rfl rfl ?_
    obtain ⟨e1, e2⟩ := some_p hs; subst e1; subst e2
    exact Rc.ret (v := some (.int (0 : Int32))) rfl rfl
  · rw [if_neg h4] at hs
    refine Rc.goL mt_806 2 (f2 := (if (M.1 s 3) < 0 then 20 else 7, [.ref s], [], gm M)) (b := (kc 336 s 8 && true)) rfl hb1 ?_
    rw [if_neg h4]
    obtain ⟨hb2, hs⟩ := ck_some hs
    by_cases h3 : (M.1 s 3) < (10 : Int32)
    · rw [if_pos h3] at hs
      refine Rc.goL mt_806 3 (f2 := (if (M.1 s 3) < (10 : Int32) then 16 else 20, [.ref s], [], gm M)) (b := (kc 336 s 8 && true)) rfl hb2 ?_
      rw [if_pos h3]
      refine Rc.goL mt_806 1 (f2 := (21, [.ref s], [.int (1 : Int32)], gm M)) (b := true) rfl rfl ?_
      obtain ⟨e1, e2⟩ := some_p hs; subst e1; subst e2
      exact Rc.ret (v := some (.int (1 : Int32))) rfl rfl
    · rw [if_neg h3] at hs
      refine Rc.goL mt_806 3 (f2 := (if (M.1 s 3) < (10 : Int32) then 16 else 20, [.ref s], [], gm M)) (b := (kc 336 s 8 && true)) rfl hb2 ?_
      rw [if_neg h3]
      refine Rc.goL mt_806 0 (f2 := (21, [.ref s], [.int (0 : Int32)], gm M)) (b := true) rfl rfl ?_
      obtain ⟨e1, e2⟩ := some_p hs; subst e1; subst e2
      exact Rc.ret (v := some (.int (0 : Int32))) rfl rfl
def qsh_need (s : Nat) (x1 : Int32) (M : SM) : Option (Unit × SM) :=
  ck (kc 336 s 8) (ob (qsh_hasRoom s M) (fun r2 M3 =>
  if r2 = 0 then
  (some ((), M3)) else
  (ck ((kc 336 s 8 && decide (R0 s 7 = some (s + 6))) && (kc 336 s 8 && (av 336 20 (s + 6) (M3.1 s 3) && (av 336 20 (s + 6) (M3.1 s 3) && true)))) (
    some ((), (wI M3 (s + 6) (Int32.toNatClampNeg (M3.1 s 3)) ((M3.1 (s + 6) (Int32.toNatClampNeg (M3.1 s 3))) ||| ((1 : Int32) <<< (x1 &&& 31)))))))))
theorem mt_804 : MT 804 K_804 LN_8 := ⟨rfl, rfl, by decide +kernel⟩
theorem okm_804 : OKm 804 := ⟨⟨vE_804, okL_8, by decide +kernel⟩, by decide +kernel, by decide +kernel, by decide +kernel⟩
set_option maxRecDepth 20000 in
theorem qsh_need_ok (d : Nat) (hd : 2 ≤ d) {s : Nat} {x1 : Int32} {M : SM} {r : Unit} {Mz : SM} (hs : qsh_need s x1 M = some (r, Mz)) : Ex d 804 [.ref s, .int x1] (gm M) (none, gm Mz) := by
  obtain ⟨d, rfl⟩ : ∃ d0, d = d0 + 1 := ⟨d - 1, by omega⟩
  refine Ex.of okm_804 (by omega) (Nat.le_of_ble_eq_true rfl) ?_
  show Rc (d + 1) 804 (0, [.ref s, .int x1], [], gm M) _
  unfold qsh_need at hs
  refine Rc.goL mt_804 0 (f2 := (1, [.ref s, .int x1], [.ref s], gm M)) (b := true) rfl rfl ?_
  obtain ⟨hk1, hs⟩ := ck_some hs
  obtain ⟨r2, M3, he4, hs⟩ := ob_some hs
  refine Rc.callV (i := 47) (mid' := 806) (av := []) (rest := []) (v := some (.int r2)) (M1 := gm M3) (a := s) rfl rfl rfl cw_806 hk1 (Nat.le_of_ble_eq_true rfl) rfl (Nat.le_of_ble_eq_true rfl) (qsh_hasRoom_ok _ (by omega) he4) ?_
  by_cases h6 : r2 = 0
  · rw [if_pos h6] at hs
    refine Rc.goL mt_804 0 (f2 := (if r2 = 0 then 22 else 7, [.ref s, .int x1], [], gm M3)) (b := true) rfl rfl ?_
    rw [if_pos h6]
    obtain ⟨e1, e2⟩ := some_p hs; subst e1; subst e2
    exact Rc.ret (v := none) rfl rfl
  · rw [if_neg h6] at hs
    refine Rc.goL mt_804 0 (f2 := (if r2 = 0 then 22 else 7, [.ref s, .int x1], [], gm M3)) (b := true) rfl rfl ?_
    rw [if_neg h6]
    obtain ⟨hb5, hs⟩ := ck_some hs
    obtain ⟨hb5_0, hb5⟩ := and_t hb5
    obtain ⟨hb5_1, hb5⟩ := and_t hb5
    obtain ⟨hb5_2, hb5⟩ := and_t hb5
    obtain ⟨hb5_3, hb5⟩ := and_t hb5
    refine Rc.goL mt_804 6 (f2 := (18, [.ref s, .int x1], [.int (1 : Int32), .int (M3.1 (s + 6) (Int32.toNatClampNeg (M3.1 s 3))), .int (M3.1 s 3), .ref (s + 6)], gm M3)) (b := ((kc 336 s 8 && decide (R0 s 7 = some (s + 6))) && (kc 336 s 8 && (av 336 20 (s + 6) (M3.1 s 3) && true)))) rfl (and_i hb5_0 (and_i hb5_1 (and_i hb5_2 rfl))) ?_
    refine Rc.goL mt_804 3 (f2 := (22, [.ref s, .int x1], [], gm (wI M3 (s + 6) (Int32.toNatClampNeg (M3.1 s 3)) ((M3.1 (s + 6) (Int32.toNatClampNeg (M3.1 s 3))) ||| ((1 : Int32) <<< (x1 &&& 31)))))) (b := (av 336 20 (s + 6) (M3.1 s 3) && true)) rfl (and_i hb5_3 rfl) ?_
    obtain ⟨e1, e2⟩ := some_p hs; subst e1; subst e2
    exact Rc.ret (v := none) rfl rfl
def qrd_factor (ch : Int32 → SM → Option (Unit × SM)) (x1 : Int32) (M : SM) : Option (Unit × SM) :=
  ob (qrd_next M) (fun r1 M2 =>
  if r1 = (40 : Int32) then
  (ob (qrd_inBrackets ch x1 M2) (fun _ M4 =>
    some ((), M4))) else
  (ob (qrd_isDigit r1 M2) (fun r7 M8 =>
    if r7 = 0 then
    (jn (fun (x2_10 : Int32) (M11 : SM) =>
        ob (qrd_fact x2_10 M11) (fun _ M12 =>
          some ((), M12))) (fun j15 =>
      if r1 < (65 : Int32) then
      (j15 r1 M8) else
      (if (90 : Int32) < r1 then
        (j15 r1 M8) else
        (ck (decide (¬ (M8.1 3 1) < 0) && true) (
          ck (kc 336 (Int32.toNatClampNeg (M8.1 3 1)) 8) (ob (qsh_put (Int32.toNatClampNeg (M8.1 3 1)) (65 : Int32) (r1 - (65 : Int32)) M8) (fun _ M18 =>
          ck (decide (¬ (M18.1 3 1) < 0) && true) (
          ck (kc 336 (Int32.toNatClampNeg (M18.1 3 1)) 8) (ob (qsh_need (Int32.toNatClampNeg (M18.1 3 1)) (r1 - (65 : Int32)) M18) (fun _ M23 =>
          some ((), (wI M23 3 3 ((M23.1 3 3) + (1 : Int32)))))))))))))) else
    (ob (qrd_digits M8) (fun _ M28 =>
      some ((), M28))))))
theorem mt_715 : MT 715 K_715 LN_7 := ⟨rfl, rfl, by decide +kernel⟩
theorem okm_715 : OKm 715 := ⟨⟨vE_715, okL_7, by decide +kernel⟩, by decide +kernel, by decide +kernel, by decide +kernel⟩
set_option maxRecDepth 20000 in
theorem qrd_factor_ok (ch : Int32 → SM → Option (Unit × SM)) (D : Nat) (hch : ∀ (d : Nat), D ≤ d → ∀ {x1 : Int32} {M : SM} {r : Unit} {Mz : SM}, ch x1 M = some (r, Mz) → Ex d 711 [.ref 3, .int x1] (gm M) (none, gm Mz)) (d : Nat) (hd : D + 5 ≤ d) {x1 : Int32} {M : SM} {r : Unit} {Mz : SM} (hs : qrd_factor ch x1 M = some (r, Mz)) : Ex d 715 [.ref 3, .int x1] (gm M) (none, gm Mz) := by
  obtain ⟨d, rfl⟩ : ∃ d0, d = d0 + 1 := ⟨d - 1, by omega⟩
  refine Ex.of okm_715 (by omega) (Nat.le_of_ble_eq_true rfl) ?_
  show Rc (d + 1) 715 (0, [.ref 3, .int x1, UU], [], gm M) _
  unfold qrd_factor at hs
  refine Rc.goL mt_715 0 (f2 := (1, [.ref 3, .int x1, UU], [.ref 3], gm M)) (b := true) rfl rfl ?_
  obtain ⟨r1, M2, he3, hs⟩ := ob_some hs
  refine Rc.callV (i := 35) (mid' := 705) (av := []) (rest := []) (v := some (.int r1)) (M1 := gm M2) (a := 3) rfl rfl rfl cw_705 rfl (Nat.le_of_ble_eq_true rfl) rfl (Nat.le_of_ble_eq_true rfl) (qrd_next_ok _ (by omega) he3) ?_
  by_cases h32 : r1 = (40 : Int32)
  · rw [if_pos h32] at hs
    refine Rc.goL mt_715 3 (f2 := (if r1 = (40 : Int32) then 11 else 19, [.ref 3, .int x1, .int r1], [], gm M2)) (b := true) rfl rfl ?_
    rw [if_pos h32]
    refine Rc.goL mt_715 1 (f2 := (13, [.ref 3, .int x1, .int r1], [.int x1, .ref 3], gm M2)) (b := true) rfl rfl ?_
    obtain ⟨u6, M4, he5, hs⟩ := ob_some hs
    refine Rc.callV (i := 120) (mid' := 716) (av := [.int x1]) (rest := []) (v := none) (M1 := gm M4) (a := 3) rfl rfl rfl cw_716 rfl (Nat.le_of_ble_eq_true rfl) rfl (Nat.le_of_ble_eq_true rfl) (qrd_inBrackets_ok ch D hch _ (by omega) he5) ?_
    refine Rc.goL mt_715 0 (f2 := (87, [.ref 3, .int x1, .int r1], [], gm M4)) (b := true) rfl rfl ?_
    obtain ⟨e1, e2⟩ := some_p hs; subst e1; subst e2
    exact Rc.ret (v := none) rfl rfl
  · rw [if_neg h32] at hs
    refine Rc.goL mt_715 3 (f2 := (if r1 = (40 : Int32) then 11 else 19, [.ref 3, .int x1, .int r1], [], gm M2)) (b := true) rfl rfl ?_
    rw [if_neg h32]
    refine Rc.goL mt_715 0 (f2 := (20, [.ref 3, .int x1, .int r1], [.int r1], gm M2)) (b := true) rfl rfl ?_
    obtain ⟨r7, M8, he9, hs⟩ := ob_some hs
    refine Rc.callS (i := 123) (mid' := 719) (av := [.int r1]) (rest := []) (v := some (.int r7)) (M1 := gm M8) rfl (Or.inl rfl) rfl cw_719 rfl (Nat.le_of_ble_eq_true rfl) (qrd_isDigit_ok _ (by omega) he9) ?_
    by_cases h31 : r7 = 0
    · rw [if_pos h31] at hs
      refine Rc.goL mt_715 0 (f2 := (if r7 = 0 then 33 else 26, [.ref 3, .int x1, .int r1], [], gm M8)) (b := true) rfl rfl ?_
      rw [if_pos h31]
      refine jn_e (P := fun (j : Int32 → SM → Option (Unit × SM)) => ∀ (x2_10 : Int32) (M11 : SM) (r : Unit) (Mz : SM), j x2_10 M11 = some (r, Mz) → Rc (d + 1) 715 (82, [.ref 3, UU, .int x2_10], [], gm M11) (none, gm Mz)) hs ?_ (fun j15 Hj15 hs => ?_)
      · intro x2_10 M11 r Mz hs
        try dsimp only at hs
        refine Rc.goL mt_715 1 (f2 := (84, [.ref 3, UU, .int x2_10], [.int x2_10, .ref 3], gm M11)) (b := true) rfl rfl ?_
        obtain ⟨u14, M12, he13, hs⟩ := ob_some hs
        refine Rc.callV (i := 134) (mid' := 717) (av := [.int x2_10]) (rest := []) (v := none) (M1 := gm M12) (a := 3) rfl rfl rfl cw_717 rfl (Nat.le_of_ble_eq_true rfl) rfl (Nat.le_of_ble_eq_true rfl) (qrd_fact_ok _ (by omega) he13) ?_
        obtain ⟨e1, e2⟩ := some_p hs; subst e1; subst e2
        exact Rc.ret (v := none) rfl rfl
      by_cases h27 : r1 < (65 : Int32)
      · rw [if_pos h27] at hs
        refine Rc.goL mt_715 2 (f2 := (if r1 < (65 : Int32) then 82 else 39, [.ref 3, .int x1, .int r1], [], gm M8)) (b := true) rfl rfl ?_
        rw [if_pos h27]
        refine Rc.less (ls2 := [.ref 3, UU, .int r1]) (by refine ⟨Or.inr rfl, Or.inl rfl, Or.inr rfl, trivial⟩) ?_
        exact Hj15 r1 _ _ _ hs
      · rw [if_neg h27] at hs
        refine Rc.goL mt_715 2 (f2 := (if r1 < (65 : Int32) then 82 else 39, [.ref 3, .int x1, .int r1], [], gm M8)) (b := true) rfl rfl ?_
        rw [if_neg h27]
        by_cases h26 : (90 : Int32) < r1
        · rw [if_pos h26] at hs
          refine Rc.goL mt_715 2 (f2 := (if (90 : Int32) < r1 then 82 else 45, [.ref 3, .int x1, .int r1], [], gm M8)) (b := true) rfl rfl ?_
          rw [if_pos h26]
          refine Rc.less (ls2 := [.ref 3, UU, .int r1]) (by refine ⟨Or.inr rfl, Or.inl rfl, Or.inr rfl, trivial⟩) ?_
          exact Hj15 r1 _ _ _ hs
        · rw [if_neg h26] at hs
          refine Rc.goL mt_715 2 (f2 := (if (90 : Int32) < r1 then 82 else 45, [.ref 3, .int x1, .int r1], [], gm M8)) (b := true) rfl rfl ?_
          rw [if_neg h26]
          obtain ⟨hb16, hs⟩ := ck_some hs
          refine Rc.goL mt_715 5 (f2 := (55, [.ref 3, .int x1, .int r1], [.int (r1 - (65 : Int32)), .int (65 : Int32), .ref (Int32.toNatClampNeg (M8.1 3 1))], gm M8)) (b := (decide (¬ (M8.1 3 1) < 0) && true)) rfl hb16 ?_
          obtain ⟨hk17, hs⟩ := ck_some hs
          obtain ⟨u20, M18, he19, hs⟩ := ob_some hs
          refine Rc.callV (i := 107) (mid' := 802) (av := [.int (65 : Int32), .int (r1 - (65 : Int32))]) (rest := []) (v := none) (M1 := gm M18) (a := (Int32.toNatClampNeg (M8.1 3 1))) rfl rfl rfl cw_802 hk17 (Nat.le_of_ble_eq_true rfl) rfl (Nat.le_of_ble_eq_true rfl) (qsh_put_ok _ (by omega) he19) ?_
          obtain ⟨hb21, hs⟩ := ck_some hs
          refine Rc.goL mt_715 4 (f2 := (66, [.ref 3, .int x1, .int r1], [.int (r1 - (65 : Int32)), .ref (Int32.toNatClampNeg (M18.1 3 1))], gm M18)) (b := (decide (¬ (M18.1 3 1) < 0) && true)) rfl hb21 ?_
          obtain ⟨hk22, hs⟩ := ck_some hs
          obtain ⟨u25, M23, he24, hs⟩ := ob_some hs
          refine Rc.callV (i := 131) (mid' := 804) (av := [.int (r1 - (65 : Int32))]) (rest := []) (v := none) (M1 := gm M23) (a := (Int32.toNatClampNeg (M18.1 3 1))) rfl rfl rfl cw_804 hk22 (Nat.le_of_ble_eq_true rfl) rfl (Nat.le_of_ble_eq_true rfl) (qsh_need_ok _ (by omega) he24) ?_
          refine Rc.goL mt_715 5 (f2 := (79, [.ref 3, .int x1, .int r1], [], gm (wI M23 3 3 ((M23.1 3 3) + (1 : Int32))))) (b := true) rfl rfl ?_
          refine Rc.goL mt_715 0 (f2 := (87, [.ref 3, .int x1, .int r1], [], gm (wI M23 3 3 ((M23.1 3 3) + (1 : Int32))))) (b := true) rfl rfl ?_
          obtain ⟨e1, e2⟩ := some_p hs; subst e1; subst e2
          exact Rc.ret (v := none) rfl rfl
    · rw [if_neg h31] at hs
      refine Rc.goL mt_715 0 (f2 := (if r7 = 0 then 33 else 26, [.ref 3, .int x1, .int r1], [], gm M8)) (b := true) rfl rfl ?_
      rw [if_neg h31]
      refine Rc.goL mt_715 0 (f2 := (27, [.ref 3, .int x1, .int r1], [.ref 3], gm M8)) (b := true) rfl rfl ?_
      obtain ⟨u30, M28, he29, hs⟩ := ob_some hs
      refine Rc.callV (i := 126) (mid' := 718) (av := []) (rest := []) (v := none) (M1 := gm M28) (a := 3) rfl rfl rfl cw_718 rfl (Nat.le_of_ble_eq_true rfl) rfl (Nat.le_of_ble_eq_true rfl) (qrd_digits_ok _ (by omega) he29) ?_
      refine Rc.goL mt_715 0 (f2 := (87, [.ref 3, .int x1, .int r1], [], gm M28)) (b := true) rfl rfl ?_
      obtain ⟨e1, e2⟩ := some_p hs; subst e1; subst e2
      exact Rc.ret (v := none) rfl rfl
def qrd_bound_L7 (ch : Int32 → SM → Option (Unit × SM)) : Nat → Int32 → Int32 → SM → Option (Unit × SM)
  | 0, _, _, _ => none
  | n + 1, x1, x2, M =>
    if x2 < (M.1 3 2) then
    (ob (qrd_next M) (fun r4 M5 =>
      jn (fun (x1_7 : Int32) (x2_8 : Int32) (x3_9 : Int32) (M10 : SM) =>
        ob (qrd_factor ch x1_7 (wI M10 3 3 ((M10.1 3 3) + (1 : Int32)))) (fun _ M11 =>
          ck (decide (¬ (M11.1 3 1) < 0) && true) (
          ck (kc 336 (Int32.toNatClampNeg (M11.1 3 1)) 8) (ob (qsh_put (Int32.toNatClampNeg (M11.1 3 1)) (i2c' x3_9) (0 : Int32) M11) (fun _ M16 =>
          qrd_bound_L7 ch n x1_7 (x2_8 + (1 : Int32)) M16))))) (fun j19 =>
      if r4 = (95 : Int32) then
      (j19 x1 x2 r4 M5) else
      (if r4 = (94 : Int32) then
        (j19 x1 x2 r4 M5) else
        (some ((), M5)))))) else
    (some ((), M))
def qrd_bound (ch : Int32 → SM → Option (Unit × SM)) (x1 : Int32) (M : SM) : Option (Unit × SM) :=
  ob (qrd_factor ch x1 M) (fun _ M1 =>
  qrd_bound_L7 ch FU x1 (0 : Int32) M1)
theorem mt_714 : MT 714 K_714 LN_7 := ⟨rfl, rfl, by decide +kernel⟩
theorem okm_714 : OKm 714 := ⟨⟨vE_714, okL_7, by decide +kernel⟩, by decide +kernel, by decide +kernel, by decide +kernel⟩
set_option maxRecDepth 20000 in
theorem qrd_bound_L7_ok (ch : Int32 → SM → Option (Unit × SM)) (D : Nat) (hch : ∀ (d : Nat), D ≤ d → ∀ {x1 : Int32} {M : SM} {r : Unit} {Mz : SM}, ch x1 M = some (r, Mz) → Ex d 711 [.ref 3, .int x1] (gm M) (none, gm Mz)) (d : Nat) (hd : D + 6 ≤ d + 1) : ∀ (n : Nat) (x1 : Int32) (x2 : Int32) (M : SM) (r : Unit) (Mz : SM), qrd_bound_L7 ch n x1 x2 M = some (r, Mz) → Rc (d + 1) 714 (7, [.ref 3, .int x1, .int x2, UU], [], gm M) (none, gm Mz) := by
  intro n
  induction n with
  | zero => intro x1 x2 M r Mz hs; cases hs
  | succ n ih =>
    intro x1 x2 M r Mz hs
    rw [qrd_bound_L7] at hs
    by_cases h22 : x2 < (M.1 3 2)
    · rw [if_pos h22] at hs
      refine Rc.goL mt_714 3 (f2 := (if x2 < (M.1 3 2) then 15 else 64, [.ref 3, .int x1, .int x2, UU], [], gm M)) (b := true) rfl rfl ?_
      rw [if_pos h22]
      refine Rc.goL mt_714 0 (f2 := (16, [.ref 3, .int x1, .int x2, UU], [.ref 3], gm M)) (b := true) rfl rfl ?_
      obtain ⟨r4, M5, he6, hs⟩ := ob_some hs
      refine Rc.callV (i := 35) (mid' := 705) (av := []) (rest := []) (v := some (.int r4)) (M1 := gm M5) (a := 3) rfl rfl rfl cw_705 rfl (Nat.le_of_ble_eq_true rfl) rfl (Nat.le_of_ble_eq_true rfl) (qrd_next_ok _ (by omega) he6) ?_
      refine jn_e (P := fun (j : Int32 → Int32 → Int32 → SM → Option (Unit × SM)) => ∀ (x1_7 : Int32) (x2_8 : Int32) (x3_9 : Int32) (M10 : SM) (r : Unit) (Mz : SM), j x1_7 x2_8 x3_9 M10 = some (r, Mz) → Rc (d + 1) 714 (33, [.ref 3, .int x1_7, .int x2_8, .int x3_9], [], gm M10) (none, gm Mz)) hs ?_ (fun j19 Hj19 hs => ?_)
      · intro x1_7 x2_8 x3_9 M10 r Mz hs
        try dsimp only at hs
        refine Rc.goL mt_714 5 (f2 := (43, [.ref 3, .int x1_7, .int x2_8, .int x3_9], [], gm (wI M10 3 3 ((M10.1 3 3) + (1 : Int32))))) (b := true) rfl rfl ?_
        refine Rc.goL mt_714 1 (f2 := (45, [.ref 3, .int x1_7, .int x2_8, .int x3_9], [.int x1_7, .ref 3], gm (wI M10 3 3 ((M10.1 3 3) + (1 : Int32))))) (b := true) rfl rfl ?_
        obtain ⟨u13, M11, he12, hs⟩ := ob_some hs
        refine Rc.callV (i := 117) (mid' := 715) (av := [.int x1_7]) (rest := []) (v := none) (M1 := gm M11) (a := 3) rfl rfl rfl cw_715 rfl (Nat.le_of_ble_eq_true rfl) rfl (Nat.le_of_ble_eq_true rfl) (qrd_factor_ok ch D hch _ (by omega) he12) ?_
        obtain ⟨hb14, hs⟩ := ck_some hs
        refine Rc.goL mt_714 4 (f2 := (55, [.ref 3, .int x1_7, .int x2_8, .int x3_9], [.int (0 : Int32), .int (i2c' x3_9), .ref (Int32.toNatClampNeg (M11.1 3 1))], gm M11)) (b := (decide (¬ (M11.1 3 1) < 0) && true)) rfl hb14 ?_
        obtain ⟨hk15, hs⟩ := ck_some hs
        obtain ⟨u18, M16, he17, hs⟩ := ob_some hs
        refine Rc.callV (i := 107) (mid' := 802) (av := [.int (i2c' x3_9), .int (0 : Int32)]) (rest := []) (v := none) (M1 := gm M16) (a := (Int32.toNatClampNeg (M11.1 3 1))) rfl rfl rfl cw_802 hk15 (Nat.le_of_ble_eq_true rfl) rfl (Nat.le_of_ble_eq_true rfl) (qsh_put_ok _ (by omega) he17) ?_
        refine Rc.goL mt_714 1 (f2 := (7, [.ref 3, .int x1_7, .int (x2_8 + (1 : Int32)), .int x3_9], [], gm M16)) (b := true) rfl rfl ?_
        refine Rc.less (ls2 := [.ref 3, .int x1_7, .int (x2_8 + (1 : Int32)), UU]) (by refine ⟨Or.inr rfl, Or.inr rfl, Or.inr rfl, Or.inl rfl, trivial⟩) ?_
        exact ih x1_7 (x2_8 + (1 : Int32)) _ _ _ hs
      by_cases h21 : r4 = (95 : Int32)
      · rw [if_pos h21] at hs
        refine Rc.goL mt_714 3 (f2 := (if r4 = (95 : Int32) then 33 else 26, [.ref 3, .int x1, .int x2, .int r4], [], gm M5)) (b := true) rfl rfl ?_
        rw [if_pos h21]
        refine Rc.less (ls2 := [.ref 3, .int x1, .int x2, .int r4]) (by refine ⟨Or.inr rfl, Or.inr rfl, Or.inr rfl, Or.inr rfl, trivial⟩) ?_
        exact Hj19 x1 x2 r4 _ _ _ hs
      · rw [if_neg h21] at hs
        refine Rc.goL mt_714 3 (f2 := (if r4 = (95 : Int32) then 33 else 26, [.ref 3, .int x1, .int x2, .int r4], [], gm M5)) (b := true) rfl rfl ?_
        rw [if_neg h21]
        by_cases h20 : r4 = (94 : Int32)
        · rw [if_pos h20] at hs
          refine Rc.goL mt_714 2 (f2 := (if r4 = (94 : Int32) then 33 else 32, [.ref 3, .int x1, .int x2, .int r4], [], gm M5)) (b := true) rfl rfl ?_
          rw [if_pos h20]
          refine Rc.less (ls2 := [.ref 3, .int x1, .int x2, .int r4]) (by refine ⟨Or.inr rfl, Or.inr rfl, Or.inr rfl, Or.inr rfl, trivial⟩) ?_
          exact Hj19 x1 x2 r4 _ _ _ hs
        · rw [if_neg h20] at hs
          refine Rc.goL mt_714 2 (f2 := (if r4 = (94 : Int32) then 33 else 32, [.ref 3, .int x1, .int x2, .int r4], [], gm M5)) (b := true) rfl rfl ?_
          rw [if_neg h20]
          obtain ⟨e1, e2⟩ := some_p hs; subst e1; subst e2
          exact Rc.ret (v := none) rfl rfl
    · rw [if_neg h22] at hs
      refine Rc.goL mt_714 3 (f2 := (if x2 < (M.1 3 2) then 15 else 64, [.ref 3, .int x1, .int x2, UU], [], gm M)) (b := true) rfl rfl ?_
      rw [if_neg h22]
      obtain ⟨e1, e2⟩ := some_p hs; subst e1; subst e2
      exact Rc.ret (v := none) rfl rfl
set_option maxRecDepth 20000 in
theorem qrd_bound_ok (ch : Int32 → SM → Option (Unit × SM)) (D : Nat) (hch : ∀ (d : Nat), D ≤ d → ∀ {x1 : Int32} {M : SM} {r : Unit} {Mz : SM}, ch x1 M = some (r, Mz) → Ex d 711 [.ref 3, .int x1] (gm M) (none, gm Mz)) (d : Nat) (hd : D + 6 ≤ d) {x1 : Int32} {M : SM} {r : Unit} {Mz : SM} (hs : qrd_bound ch x1 M = some (r, Mz)) : Ex d 714 [.ref 3, .int x1] (gm M) (none, gm Mz) := by
  obtain ⟨d, rfl⟩ : ∃ d0, d = d0 + 1 := ⟨d - 1, by omega⟩
  refine Ex.of okm_714 (by omega) (Nat.le_of_ble_eq_true rfl) ?_
  show Rc (d + 1) 714 (0, [.ref 3, .int x1, UU, UU], [], gm M) _
  unfold qrd_bound at hs
  refine Rc.goL mt_714 1 (f2 := (2, [.ref 3, .int x1, UU, UU], [.int x1, .ref 3], gm M)) (b := true) rfl rfl ?_
  obtain ⟨u3, M1, he2, hs⟩ := ob_some hs
  refine Rc.callV (i := 117) (mid' := 715) (av := [.int x1]) (rest := []) (v := none) (M1 := gm M1) (a := 3) rfl rfl rfl cw_715 rfl (Nat.le_of_ble_eq_true rfl) rfl (Nat.le_of_ble_eq_true rfl) (qrd_factor_ok ch D hch _ (by omega) he2) ?_
  refine Rc.goL mt_714 1 (f2 := (7, [.ref 3, .int x1, .int (0 : Int32), UU], [], gm M1)) (b := true) rfl rfl ?_
  refine Rc.less (ls2 := [.ref 3, .int x1, .int (0 : Int32), UU]) (by refine ⟨Or.inr rfl, Or.inr rfl, Or.inr rfl, Or.inl rfl, trivial⟩) ?_
  exact qrd_bound_L7_ok ch D hch d hd _ x1 (0 : Int32) _ _ _ hs
def qrd_term_L7 (ch : Int32 → SM → Option (Unit × SM)) : Nat → Int32 → Int32 → SM → Option (Unit × SM)
  | 0, _, _, _ => none
  | n + 1, x1, x2, M =>
    if x2 < (M.1 3 2) then
    (ob (qrd_next M) (fun r4 M5 =>
      jn (fun (x1_7 : Int32) (x2_8 : Int32) (x3_9 : Int32) (M10 : SM) =>
        ob (qrd_bound ch x1_7 (wI M10 3 3 ((M10.1 3 3) + (1 : Int32)))) (fun _ M11 =>
          ck (decide (¬ (M11.1 3 1) < 0) && true) (
          ck (kc 336 (Int32.toNatClampNeg (M11.1 3 1)) 8) (ob (qsh_put (Int32.toNatClampNeg (M11.1 3 1)) (i2c' x3_9) (0 : Int32) M11) (fun _ M16 =>
          qrd_term_L7 ch n x1_7 (x2_8 + (1 : Int32)) M16))))) (fun j19 =>
      if r4 = (42 : Int32) then
      (j19 x1 x2 r4 M5) else
      (if r4 = (47 : Int32) then
        (j19 x1 x2 r4 M5) else
        (if r4 = (37 : Int32) then
          (j19 x1 x2 r4 M5) else
          (some ((), M5))))))) else
    (some ((), M))
def qrd_term (ch : Int32 → SM → Option (Unit × SM)) (x1 : Int32) (M : SM) : Option (Unit × SM) :=
  ob (qrd_bound ch x1 M) (fun _ M1 =>
  qrd_term_L7 ch FU x1 (0 : Int32) M1)
theorem mt_713 : MT 713 K_713 LN_7 := ⟨rfl, rfl, by decide +kernel⟩
theorem okm_713 : OKm 713 := ⟨⟨vE_713, okL_7, by decide +kernel⟩, by decide +kernel, by decide +kernel, by decide +kernel⟩
set_option maxRecDepth 20000 in
theorem qrd_term_L7_ok (ch : Int32 → SM → Option (Unit × SM)) (D : Nat) (hch : ∀ (d : Nat), D ≤ d → ∀ {x1 : Int32} {M : SM} {r : Unit} {Mz : SM}, ch x1 M = some (r, Mz) → Ex d 711 [.ref 3, .int x1] (gm M) (none, gm Mz)) (d : Nat) (hd : D + 7 ≤ d + 1) : ∀ (n : Nat) (x1 : Int32) (x2 : Int32) (M : SM) (r : Unit) (Mz : SM), qrd_term_L7 ch n x1 x2 M = some (r, Mz) → Rc (d + 1) 713 (7, [.ref 3, .int x1, .int x2, UU], [], gm M) (none, gm Mz) := by
  intro n
  induction n with
  | zero => intro x1 x2 M r Mz hs; cases hs
  | succ n ih =>
    intro x1 x2 M r Mz hs
    rw [qrd_term_L7] at hs
    by_cases h23 : x2 < (M.1 3 2)
    · rw [if_pos h23] at hs
      refine Rc.goL mt_713 3 (f2 := (if x2 < (M.1 3 2) then 15 else 70, [.ref 3, .int x1, .int x2, UU], [], gm M)) (b := true) rfl rfl ?_
      rw [if_pos h23]
      refine Rc.goL mt_713 0 (f2 := (16, [.ref 3, .int x1, .int x2, UU], [.ref 3], gm M)) (b := true) rfl rfl ?_
      obtain ⟨r4, M5, he6, hs⟩ := ob_some hs
      refine Rc.callV (i := 35) (mid' := 705) (av := []) (rest := []) (v := some (.int r4)) (M1 := gm M5) (a := 3) rfl rfl rfl cw_705 rfl (Nat.le_of_ble_eq_true rfl) rfl (Nat.le_of_ble_eq_true rfl) (qrd_next_ok _ (by omega) he6) ?_
      refine jn_e (P := fun (j : Int32 → Int32 → Int32 → SM → Option (Unit × SM)) => ∀ (x1_7 : Int32) (x2_8 : Int32) (x3_9 : Int32) (M10 : SM) (r : Unit) (Mz : SM), j x1_7 x2_8 x3_9 M10 = some (r, Mz) → Rc (d + 1) 713 (39, [.ref 3, .int x1_7, .int x2_8, .int x3_9], [], gm M10) (none, gm Mz)) hs ?_ (fun j19 Hj19 hs => ?_)
      · intro x1_7 x2_8 x3_9 M10 r Mz hs
        try dsimp only at hs
        refine Rc.goL mt_713 5 (f2 := (49, [.ref 3, .int x1_7, .int x2_8, .int x3_9], [], gm (wI M10 3 3 ((M10.1 3 3) + (1 : Int32))))) (b := true) rfl rfl ?_
        refine Rc.goL mt_713 1 (f2 := (51, [.ref 3, .int x1_7, .int x2_8, .int x3_9], [.int x1_7, .ref 3], gm (wI M10 3 3 ((M10.1 3 3) + (1 : Int32))))) (b := true) rfl rfl ?_
        obtain ⟨u13, M11, he12, hs⟩ := ob_some hs
        refine Rc.callV (i := 114) (mid' := 714) (av := [.int x1_7]) (rest := []) (v := none) (M1 := gm M11) (a := 3) rfl rfl rfl cw_714 rfl (Nat.le_of_ble_eq_true rfl) rfl (Nat.le_of_ble_eq_true rfl) (qrd_bound_ok ch D hch _ (by omega) he12) ?_
        obtain ⟨hb14, hs⟩ := ck_some hs
        refine Rc.goL mt_713 4 (f2 := (61, [.ref 3, .int x1_7, .int x2_8, .int x3_9], [.int (0 : Int32), .int (i2c' x3_9), .ref (Int32.toNatClampNeg (M11.1 3 1))], gm M11)) (b := (decide (¬ (M11.1 3 1) < 0) && true)) rfl hb14 ?_
        obtain ⟨hk15, hs⟩ := ck_some hs
        obtain ⟨u18, M16, he17, hs⟩ := ob_some hs
        refine Rc.callV (i := 107) (mid' := 802) (av := [.int (i2c' x3_9), .int (0 : Int32)]) (rest := []) (v := none) (M1 := gm M16) (a := (Int32.toNatClampNeg (M11.1 3 1))) rfl rfl rfl cw_802 hk15 (Nat.le_of_ble_eq_true rfl) rfl (Nat.le_of_ble_eq_true rfl) (qsh_put_ok _ (by omega) he17) ?_
        refine Rc.goL mt_713 1 (f2 := (7, [.ref 3, .int x1_7, .int (x2_8 + (1 : Int32)), .int x3_9], [], gm M16)) (b := true) rfl rfl ?_
        refine Rc.less (ls2 := [.ref 3, .int x1_7, .int (x2_8 + (1 : Int32)), UU]) (by refine ⟨Or.inr rfl, Or.inr rfl, Or.inr rfl, Or.inl rfl, trivial⟩) ?_
        exact ih x1_7 (x2_8 + (1 : Int32)) _ _ _ hs
      by_cases h22 : r4 = (42 : Int32)
      · rw [if_pos h22] at hs
        refine Rc.goL mt_713 3 (f2 := (if r4 = (42 : Int32) then 39 else 26, [.ref 3, .int x1, .int x2, .int r4], [], gm M5)) (b := true) rfl rfl ?_
        rw [if_pos h22]
        refine Rc.less (ls2 := [.ref 3, .int x1, .int x2, .int r4]) (by refine ⟨Or.inr rfl, Or.inr rfl, Or.inr rfl, Or.inr rfl, trivial⟩) ?_
        exact Hj19 x1 x2 r4 _ _ _ hs
      · rw [if_neg h22] at hs
        refine Rc.goL mt_713 3 (f2 := (if r4 = (42 : Int32) then 39 else 26, [.ref 3, .int x1, .int x2, .int r4], [], gm M5)) (b := true) rfl rfl ?_
        rw [if_neg h22]
        by_cases h21 : r4 = (47 : Int32)
        · rw [if_pos h21] at hs
          refine Rc.goL mt_713 2 (f2 := (if r4 = (47 : Int32) then 39 else 32, [.ref 3, .int x1, .int x2, .int r4], [], gm M5)) (b := true) rfl rfl ?_
          rw [if_pos h21]
          refine Rc.less (ls2 := [.ref 3, .int x1, .int x2, .int r4]) (by refine ⟨Or.inr rfl, Or.inr rfl, Or.inr rfl, Or.inr rfl, trivial⟩) ?_
          exact Hj19 x1 x2 r4 _ _ _ hs
        · rw [if_neg h21] at hs
          refine Rc.goL mt_713 2 (f2 := (if r4 = (47 : Int32) then 39 else 32, [.ref 3, .int x1, .int x2, .int r4], [], gm M5)) (b := true) rfl rfl ?_
          rw [if_neg h21]
          by_cases h20 : r4 = (37 : Int32)
          · rw [if_pos h20] at hs
            refine Rc.goL mt_713 2 (f2 := (if r4 = (37 : Int32) then 39 else 38, [.ref 3, .int x1, .int x2, .int r4], [], gm M5)) (b := true) rfl rfl ?_
            rw [if_pos h20]
            refine Rc.less (ls2 := [.ref 3, .int x1, .int x2, .int r4]) (by refine ⟨Or.inr rfl, Or.inr rfl, Or.inr rfl, Or.inr rfl, trivial⟩) ?_
            exact Hj19 x1 x2 r4 _ _ _ hs
          · rw [if_neg h20] at hs
            refine Rc.goL mt_713 2 (f2 := (if r4 = (37 : Int32) then 39 else 38, [.ref 3, .int x1, .int x2, .int r4], [], gm M5)) (b := true) rfl rfl ?_
            rw [if_neg h20]
            obtain ⟨e1, e2⟩ := some_p hs; subst e1; subst e2
            exact Rc.ret (v := none) rfl rfl
    · rw [if_neg h23] at hs
      refine Rc.goL mt_713 3 (f2 := (if x2 < (M.1 3 2) then 15 else 70, [.ref 3, .int x1, .int x2, UU], [], gm M)) (b := true) rfl rfl ?_
      rw [if_neg h23]
      obtain ⟨e1, e2⟩ := some_p hs; subst e1; subst e2
      exact Rc.ret (v := none) rfl rfl
set_option maxRecDepth 20000 in
theorem qrd_term_ok (ch : Int32 → SM → Option (Unit × SM)) (D : Nat) (hch : ∀ (d : Nat), D ≤ d → ∀ {x1 : Int32} {M : SM} {r : Unit} {Mz : SM}, ch x1 M = some (r, Mz) → Ex d 711 [.ref 3, .int x1] (gm M) (none, gm Mz)) (d : Nat) (hd : D + 7 ≤ d) {x1 : Int32} {M : SM} {r : Unit} {Mz : SM} (hs : qrd_term ch x1 M = some (r, Mz)) : Ex d 713 [.ref 3, .int x1] (gm M) (none, gm Mz) := by
  obtain ⟨d, rfl⟩ : ∃ d0, d = d0 + 1 := ⟨d - 1, by omega⟩
  refine Ex.of okm_713 (by omega) (Nat.le_of_ble_eq_true rfl) ?_
  show Rc (d + 1) 713 (0, [.ref 3, .int x1, UU, UU], [], gm M) _
  unfold qrd_term at hs
  refine Rc.goL mt_713 1 (f2 := (2, [.ref 3, .int x1, UU, UU], [.int x1, .ref 3], gm M)) (b := true) rfl rfl ?_
  obtain ⟨u3, M1, he2, hs⟩ := ob_some hs
  refine Rc.callV (i := 114) (mid' := 714) (av := [.int x1]) (rest := []) (v := none) (M1 := gm M1) (a := 3) rfl rfl rfl cw_714 rfl (Nat.le_of_ble_eq_true rfl) rfl (Nat.le_of_ble_eq_true rfl) (qrd_bound_ok ch D hch _ (by omega) he2) ?_
  refine Rc.goL mt_713 1 (f2 := (7, [.ref 3, .int x1, .int (0 : Int32), UU], [], gm M1)) (b := true) rfl rfl ?_
  refine Rc.less (ls2 := [.ref 3, .int x1, .int (0 : Int32), UU]) (by refine ⟨Or.inr rfl, Or.inr rfl, Or.inr rfl, Or.inl rfl, trivial⟩) ?_
  exact qrd_term_L7_ok ch D hch d hd _ x1 (0 : Int32) _ _ _ hs
def qrd_sum_L7 (ch : Int32 → SM → Option (Unit × SM)) : Nat → Int32 → Int32 → SM → Option (Unit × SM)
  | 0, _, _, _ => none
  | n + 1, x1, x2, M =>
    if x2 < (M.1 3 2) then
    (ob (qrd_next M) (fun r4 M5 =>
      jn (fun (x1_7 : Int32) (x2_8 : Int32) (x3_9 : Int32) (M10 : SM) =>
        ob (qrd_term ch x1_7 (wI M10 3 3 ((M10.1 3 3) + (1 : Int32)))) (fun _ M11 =>
          ck (decide (¬ (M11.1 3 1) < 0) && true) (
          ck (kc 336 (Int32.toNatClampNeg (M11.1 3 1)) 8) (ob (qsh_put (Int32.toNatClampNeg (M11.1 3 1)) (i2c' x3_9) (0 : Int32) M11) (fun _ M16 =>
          qrd_sum_L7 ch n x1_7 (x2_8 + (1 : Int32)) M16))))) (fun j19 =>
      if r4 = (43 : Int32) then
      (j19 x1 x2 r4 M5) else
      (if r4 = (45 : Int32) then
        (j19 x1 x2 r4 M5) else
        (some ((), M5)))))) else
    (some ((), M))
def qrd_sum (ch : Int32 → SM → Option (Unit × SM)) (x1 : Int32) (M : SM) : Option (Unit × SM) :=
  ob (qrd_term ch x1 M) (fun _ M1 =>
  qrd_sum_L7 ch FU x1 (0 : Int32) M1)
theorem mt_712 : MT 712 K_712 LN_7 := ⟨rfl, rfl, by decide +kernel⟩
theorem okm_712 : OKm 712 := ⟨⟨vE_712, okL_7, by decide +kernel⟩, by decide +kernel, by decide +kernel, by decide +kernel⟩
set_option maxRecDepth 20000 in
theorem qrd_sum_L7_ok (ch : Int32 → SM → Option (Unit × SM)) (D : Nat) (hch : ∀ (d : Nat), D ≤ d → ∀ {x1 : Int32} {M : SM} {r : Unit} {Mz : SM}, ch x1 M = some (r, Mz) → Ex d 711 [.ref 3, .int x1] (gm M) (none, gm Mz)) (d : Nat) (hd : D + 8 ≤ d + 1) : ∀ (n : Nat) (x1 : Int32) (x2 : Int32) (M : SM) (r : Unit) (Mz : SM), qrd_sum_L7 ch n x1 x2 M = some (r, Mz) → Rc (d + 1) 712 (7, [.ref 3, .int x1, .int x2, UU], [], gm M) (none, gm Mz) := by
  intro n
  induction n with
  | zero => intro x1 x2 M r Mz hs; cases hs
  | succ n ih =>
    intro x1 x2 M r Mz hs
    rw [qrd_sum_L7] at hs
    by_cases h22 : x2 < (M.1 3 2)
    · rw [if_pos h22] at hs
      refine Rc.goL mt_712 3 (f2 := (if x2 < (M.1 3 2) then 15 else 64, [.ref 3, .int x1, .int x2, UU], [], gm M)) (b := true) rfl rfl ?_
      rw [if_pos h22]
      refine Rc.goL mt_712 0 (f2 := (16, [.ref 3, .int x1, .int x2, UU], [.ref 3], gm M)) (b := true) rfl rfl ?_
      obtain ⟨r4, M5, he6, hs⟩ := ob_some hs
      refine Rc.callV (i := 35) (mid' := 705) (av := []) (rest := []) (v := some (.int r4)) (M1 := gm M5) (a := 3) rfl rfl rfl cw_705 rfl (Nat.le_of_ble_eq_true rfl) rfl (Nat.le_of_ble_eq_true rfl) (qrd_next_ok _ (by omega) he6) ?_
      refine jn_e (P := fun (j : Int32 → Int32 → Int32 → SM → Option (Unit × SM)) => ∀ (x1_7 : Int32) (x2_8 : Int32) (x3_9 : Int32) (M10 : SM) (r : Unit) (Mz : SM), j x1_7 x2_8 x3_9 M10 = some (r, Mz) → Rc (d + 1) 712 (33, [.ref 3, .int x1_7, .int x2_8, .int x3_9], [], gm M10) (none, gm Mz)) hs ?_ (fun j19 Hj19 hs => ?_)
      · intro x1_7 x2_8 x3_9 M10 r Mz hs
        try dsimp only at hs
        refine Rc.goL mt_712 5 (f2 := (43, [.ref 3, .int x1_7, .int x2_8, .int x3_9], [], gm (wI M10 3 3 ((M10.1 3 3) + (1 : Int32))))) (b := true) rfl rfl ?_
        refine Rc.goL mt_712 1 (f2 := (45, [.ref 3, .int x1_7, .int x2_8, .int x3_9], [.int x1_7, .ref 3], gm (wI M10 3 3 ((M10.1 3 3) + (1 : Int32))))) (b := true) rfl rfl ?_
        obtain ⟨u13, M11, he12, hs⟩ := ob_some hs
        refine Rc.callV (i := 111) (mid' := 713) (av := [.int x1_7]) (rest := []) (v := none) (M1 := gm M11) (a := 3) rfl rfl rfl cw_713 rfl (Nat.le_of_ble_eq_true rfl) rfl (Nat.le_of_ble_eq_true rfl) (qrd_term_ok ch D hch _ (by omega) he12) ?_
        obtain ⟨hb14, hs⟩ := ck_some hs
        refine Rc.goL mt_712 4 (f2 := (55, [.ref 3, .int x1_7, .int x2_8, .int x3_9], [.int (0 : Int32), .int (i2c' x3_9), .ref (Int32.toNatClampNeg (M11.1 3 1))], gm M11)) (b := (decide (¬ (M11.1 3 1) < 0) && true)) rfl hb14 ?_
        obtain ⟨hk15, hs⟩ := ck_some hs
        obtain ⟨u18, M16, he17, hs⟩ := ob_some hs
        refine Rc.callV (i := 107) (mid' := 802) (av := [.int (i2c' x3_9), .int (0 : Int32)]) (rest := []) (v := none) (M1 := gm M16) (a := (Int32.toNatClampNeg (M11.1 3 1))) rfl rfl rfl cw_802 hk15 (Nat.le_of_ble_eq_true rfl) rfl (Nat.le_of_ble_eq_true rfl) (qsh_put_ok _ (by omega) he17) ?_
        refine Rc.goL mt_712 1 (f2 := (7, [.ref 3, .int x1_7, .int (x2_8 + (1 : Int32)), .int x3_9], [], gm M16)) (b := true) rfl rfl ?_
        refine Rc.less (ls2 := [.ref 3, .int x1_7, .int (x2_8 + (1 : Int32)), UU]) (by refine ⟨Or.inr rfl, Or.inr rfl, Or.inr rfl, Or.inl rfl, trivial⟩) ?_
        exact ih x1_7 (x2_8 + (1 : Int32)) _ _ _ hs
      by_cases h21 : r4 = (43 : Int32)
      · rw [if_pos h21] at hs
        refine Rc.goL mt_712 3 (f2 := (if r4 = (43 : Int32) then 33 else 26, [.ref 3, .int x1, .int x2, .int r4], [], gm M5)) (b := true) rfl rfl ?_
        rw [if_pos h21]
        refine Rc.less (ls2 := [.ref 3, .int x1, .int x2, .int r4]) (by refine ⟨Or.inr rfl, Or.inr rfl, Or.inr rfl, Or.inr rfl, trivial⟩) ?_
        exact Hj19 x1 x2 r4 _ _ _ hs
      · rw [if_neg h21] at hs
        refine Rc.goL mt_712 3 (f2 := (if r4 = (43 : Int32) then 33 else 26, [.ref 3, .int x1, .int x2, .int r4], [], gm M5)) (b := true) rfl rfl ?_
        rw [if_neg h21]
        by_cases h20 : r4 = (45 : Int32)
        · rw [if_pos h20] at hs
          refine Rc.goL mt_712 2 (f2 := (if r4 = (45 : Int32) then 33 else 32, [.ref 3, .int x1, .int x2, .int r4], [], gm M5)) (b := true) rfl rfl ?_
          rw [if_pos h20]
          refine Rc.less (ls2 := [.ref 3, .int x1, .int x2, .int r4]) (by refine ⟨Or.inr rfl, Or.inr rfl, Or.inr rfl, Or.inr rfl, trivial⟩) ?_
          exact Hj19 x1 x2 r4 _ _ _ hs
        · rw [if_neg h20] at hs
          refine Rc.goL mt_712 2 (f2 := (if r4 = (45 : Int32) then 33 else 32, [.ref 3, .int x1, .int x2, .int r4], [], gm M5)) (b := true) rfl rfl ?_
          rw [if_neg h20]
          obtain ⟨e1, e2⟩ := some_p hs; subst e1; subst e2
          exact Rc.ret (v := none) rfl rfl
    · rw [if_neg h22] at hs
      refine Rc.goL mt_712 3 (f2 := (if x2 < (M.1 3 2) then 15 else 64, [.ref 3, .int x1, .int x2, UU], [], gm M)) (b := true) rfl rfl ?_
      rw [if_neg h22]
      obtain ⟨e1, e2⟩ := some_p hs; subst e1; subst e2
      exact Rc.ret (v := none) rfl rfl
set_option maxRecDepth 20000 in
theorem qrd_sum_ok (ch : Int32 → SM → Option (Unit × SM)) (D : Nat) (hch : ∀ (d : Nat), D ≤ d → ∀ {x1 : Int32} {M : SM} {r : Unit} {Mz : SM}, ch x1 M = some (r, Mz) → Ex d 711 [.ref 3, .int x1] (gm M) (none, gm Mz)) (d : Nat) (hd : D + 8 ≤ d) {x1 : Int32} {M : SM} {r : Unit} {Mz : SM} (hs : qrd_sum ch x1 M = some (r, Mz)) : Ex d 712 [.ref 3, .int x1] (gm M) (none, gm Mz) := by
  obtain ⟨d, rfl⟩ : ∃ d0, d = d0 + 1 := ⟨d - 1, by omega⟩
  refine Ex.of okm_712 (by omega) (Nat.le_of_ble_eq_true rfl) ?_
  show Rc (d + 1) 712 (0, [.ref 3, .int x1, UU, UU], [], gm M) _
  unfold qrd_sum at hs
  refine Rc.goL mt_712 1 (f2 := (2, [.ref 3, .int x1, UU, UU], [.int x1, .ref 3], gm M)) (b := true) rfl rfl ?_
  obtain ⟨u3, M1, he2, hs⟩ := ob_some hs
  refine Rc.callV (i := 111) (mid' := 713) (av := [.int x1]) (rest := []) (v := none) (M1 := gm M1) (a := 3) rfl rfl rfl cw_713 rfl (Nat.le_of_ble_eq_true rfl) rfl (Nat.le_of_ble_eq_true rfl) (qrd_term_ok ch D hch _ (by omega) he2) ?_
  refine Rc.goL mt_712 1 (f2 := (7, [.ref 3, .int x1, .int (0 : Int32), UU], [], gm M1)) (b := true) rfl rfl ?_
  refine Rc.less (ls2 := [.ref 3, .int x1, .int (0 : Int32), UU]) (by refine ⟨Or.inr rfl, Or.inr rfl, Or.inr rfl, Or.inl rfl, trivial⟩) ?_
  exact qrd_sum_L7_ok ch D hch d hd _ x1 (0 : Int32) _ _ _ hs
def qrd_choice (ch : Int32 → SM → Option (Unit × SM)) (x1 : Int32) (M : SM) : Option (Unit × SM) :=
  ob (qrd_sum ch x1 M) (fun _ M1 =>
  ob (qrd_next M1) (fun r4 M5 =>
  jn (fun (x1_7 : Int32) (x2_8 : Int32) (M9 : SM) =>
    ob (qrd_sum ch x1_7 (wI M9 3 3 ((M9.1 3 3) + (1 : Int32)))) (fun _ M10 =>
      ob (qrd_next M10) (fun r13 M14 =>
      if r13 = (63 : Int32) then
      (if x1_7 < (6 : Int32) then
        (ob (ch (x1_7 + (1 : Int32)) (wI M14 3 3 ((M14.1 3 3) + (1 : Int32)))) (fun _ M16 =>
          ob (qrd_expect (58 : Int32) M16) (fun _ M19 =>
          ob (ch (x1_7 + (1 : Int32)) M19) (fun _ M22 =>
          ck (decide (¬ (M22.1 3 1) < 0) && true) (
          ck (kc 336 (Int32.toNatClampNeg (M22.1 3 1)) 8) (ob (qsh_put (Int32.toNatClampNeg (M22.1 3 1)) (i2c' x2_8) (0 : Int32) M22) (fun _ M27 =>
          some ((), M27)))))))) else
        (ob (qrd_fail (5 : Int32) M14) (fun _ M30 =>
          some ((), M30)))) else
      (ob (qrd_fail (1 : Int32) M14) (fun _ M34 =>
        some ((), M34)))))) (fun j38 =>
  if r4 = (60 : Int32) then
  (j38 x1 r4 M5) else
  (if r4 = (62 : Int32) then
    (j38 x1 r4 M5) else
    (if r4 = (61 : Int32) then
      (j38 x1 r4 M5) else
      (some ((), M5)))))))
theorem mt_711 : MT 711 K_711 LN_7 := ⟨rfl, rfl, by decide +kernel⟩
theorem okm_711 : OKm 711 := ⟨⟨vE_711, okL_7, by decide +kernel⟩, by decide +kernel, by decide +kernel, by decide +kernel⟩
set_option maxRecDepth 20000 in
theorem qrd_choice_ok (ch : Int32 → SM → Option (Unit × SM)) (D : Nat) (hch : ∀ (d : Nat), D ≤ d → ∀ {x1 : Int32} {M : SM} {r : Unit} {Mz : SM}, ch x1 M = some (r, Mz) → Ex d 711 [.ref 3, .int x1] (gm M) (none, gm Mz)) (d : Nat) (hd : D + 9 ≤ d) {x1 : Int32} {M : SM} {r : Unit} {Mz : SM} (hs : qrd_choice ch x1 M = some (r, Mz)) : Ex d 711 [.ref 3, .int x1] (gm M) (none, gm Mz) := by
  obtain ⟨d, rfl⟩ : ∃ d0, d = d0 + 1 := ⟨d - 1, by omega⟩
  refine Ex.of okm_711 (by omega) (Nat.le_of_ble_eq_true rfl) ?_
  show Rc (d + 1) 711 (0, [.ref 3, .int x1, UU], [], gm M) _
  unfold qrd_choice at hs
  refine Rc.goL mt_711 1 (f2 := (2, [.ref 3, .int x1, UU], [.int x1, .ref 3], gm M)) (b := true) rfl rfl ?_
  obtain ⟨u3, M1, he2, hs⟩ := ob_some hs
  refine Rc.callV (i := 104) (mid' := 712) (av := [.int x1]) (rest := []) (v := none) (M1 := gm M1) (a := 3) rfl rfl rfl cw_712 rfl (Nat.le_of_ble_eq_true rfl) rfl (Nat.le_of_ble_eq_true rfl) (qrd_sum_ok ch D hch _ (by omega) he2) ?_
  refine Rc.goL mt_711 0 (f2 := (6, [.ref 3, .int x1, UU], [.ref 3], gm M1)) (b := true) rfl rfl ?_
  obtain ⟨r4, M5, he6, hs⟩ := ob_some hs
  refine Rc.callV (i := 35) (mid' := 705) (av := []) (rest := []) (v := some (.int r4)) (M1 := gm M5) (a := 3) rfl rfl rfl cw_705 rfl (Nat.le_of_ble_eq_true rfl) rfl (Nat.le_of_ble_eq_true rfl) (qrd_next_ok _ (by omega) he6) ?_
  refine jn_e (P := fun (j : Int32 → Int32 → SM → Option (Unit × SM)) => ∀ (x1_7 : Int32) (x2_8 : Int32) (M9 : SM) (r : Unit) (Mz : SM), j x1_7 x2_8 M9 = some (r, Mz) → Rc (d + 1) 711 (29, [.ref 3, .int x1_7, .int x2_8], [], gm M9) (none, gm Mz)) hs ?_ (fun j38 Hj38 hs => ?_)
  · intro x1_7 x2_8 M9 r Mz hs
    try dsimp only at hs
    refine Rc.goL mt_711 5 (f2 := (39, [.ref 3, .int x1_7, .int x2_8], [], gm (wI M9 3 3 ((M9.1 3 3) + (1 : Int32))))) (b := true) rfl rfl ?_
    refine Rc.goL mt_711 1 (f2 := (41, [.ref 3, .int x1_7, .int x2_8], [.int x1_7, .ref 3], gm (wI M9 3 3 ((M9.1 3 3) + (1 : Int32))))) (b := true) rfl rfl ?_
    obtain ⟨u12, M10, he11, hs⟩ := ob_some hs
    refine Rc.callV (i := 104) (mid' := 712) (av := [.int x1_7]) (rest := []) (v := none) (M1 := gm M10) (a := 3) rfl rfl rfl cw_712 rfl (Nat.le_of_ble_eq_true rfl) rfl (Nat.le_of_ble_eq_true rfl) (qrd_sum_ok ch D hch _ (by omega) he11) ?_
    refine Rc.goL mt_711 0 (f2 := (45, [.ref 3, .int x1_7, .int x2_8], [.ref 3], gm M10)) (b := true) rfl rfl ?_
    obtain ⟨r13, M14, he15, hs⟩ := ob_some hs
    refine Rc.callV (i := 35) (mid' := 705) (av := []) (rest := []) (v := some (.int r13)) (M1 := gm M14) (a := 3) rfl rfl rfl cw_705 rfl (Nat.le_of_ble_eq_true rfl) rfl (Nat.le_of_ble_eq_true rfl) (qrd_next_ok _ (by omega) he15) ?_
    by_cases h37 : r13 = (63 : Int32)
    · rw [if_pos h37] at hs
      refine Rc.goL mt_711 1 (f2 := (if r13 = (63 : Int32) then 59 else 53, [.ref 3, .int x1_7, .int x2_8], [], gm M14)) (b := true) rfl rfl ?_
      rw [if_pos h37]
      by_cases h33 : x1_7 < (6 : Int32)
      · rw [if_pos h33] at hs
        refine Rc.goL mt_711 2 (f2 := (if x1_7 < (6 : Int32) then 71 else 65, [.ref 3, .int x1_7, .int x2_8], [], gm M14)) (b := true) rfl rfl ?_
        rw [if_pos h33]
        refine Rc.goL mt_711 5 (f2 := (81, [.ref 3, .int x1_7, .int x2_8], [], gm (wI M14 3 3 ((M14.1 3 3) + (1 : Int32))))) (b := true) rfl rfl ?_
        refine Rc.goL mt_711 3 (f2 := (85, [.ref 3, .int x1_7, .int x2_8], [.int (x1_7 + (1 : Int32)), .ref 3], gm (wI M14 3 3 ((M14.1 3 3) + (1 : Int32))))) (b := true) rfl rfl ?_
        obtain ⟨u18, M16, he17, hs⟩ := ob_some hs
        refine Rc.callV (i := 65) (mid' := 711) (av := [.int (x1_7 + (1 : Int32))]) (rest := []) (v := none) (M1 := gm M16) (a := 3) rfl rfl rfl cw_711 rfl (Nat.le_of_ble_eq_true rfl) rfl (Nat.le_of_ble_eq_true rfl) (hch _ (by omega) he17) ?_
        refine Rc.goL mt_711 1 (f2 := (91, [.ref 3, .int x1_7, .int x2_8], [.int (58 : Int32), .ref 3], gm M16)) (b := true) rfl rfl ?_
        obtain ⟨u21, M19, he20, hs⟩ := ob_some hs
        refine Rc.callV (i := 100) (mid' := 707) (av := [.int (58 : Int32)]) (rest := []) (v := none) (M1 := gm M19) (a := 3) rfl rfl rfl cw_707 rfl (Nat.le_of_ble_eq_true rfl) rfl (Nat.le_of_ble_eq_true rfl) (qrd_expect_ok _ (by omega) he20) ?_
        refine Rc.goL mt_711 3 (f2 := (98, [.ref 3, .int x1_7, .int x2_8], [.int (x1_7 + (1 : Int32)), .ref 3], gm M19)) (b := true) rfl rfl ?_
        obtain ⟨u24, M22, he23, hs⟩ := ob_some hs
        refine Rc.callV (i := 65) (mid' := 711) (av := [.int (x1_7 + (1 : Int32))]) (rest := []) (v := none) (M1 := gm M22) (a := 3) rfl rfl rfl cw_711 rfl (Nat.le_of_ble_eq_true rfl) rfl (Nat.le_of_ble_eq_true rfl) (hch _ (by omega) he23) ?_
        obtain ⟨hb25, hs⟩ := ck_some hs
        refine Rc.goL mt_711 4 (f2 := (108, [.ref 3, .int x1_7, .int x2_8], [.int (0 : Int32), .int (i2c' x2_8), .ref (Int32.toNatClampNeg (M22.1 3 1))], gm M22)) (b := (decide (¬ (M22.1 3 1) < 0) && true)) rfl hb25 ?_
        obtain ⟨hk26, hs⟩ := ck_some hs
        obtain ⟨u29, M27, he28, hs⟩ := ob_some hs
        refine Rc.callV (i := 107) (mid' := 802) (av := [.int (i2c' x2_8), .int (0 : Int32)]) (rest := []) (v := none) (M1 := gm M27) (a := (Int32.toNatClampNeg (M22.1 3 1))) rfl rfl rfl cw_802 hk26 (Nat.le_of_ble_eq_true rfl) rfl (Nat.le_of_ble_eq_true rfl) (qsh_put_ok _ (by omega) he28) ?_
        obtain ⟨e1, e2⟩ := some_p hs; subst e1; subst e2
        exact Rc.ret (v := none) rfl rfl
      · rw [if_neg h33] at hs
        refine Rc.goL mt_711 2 (f2 := (if x1_7 < (6 : Int32) then 71 else 65, [.ref 3, .int x1_7, .int x2_8], [], gm M14)) (b := true) rfl rfl ?_
        rw [if_neg h33]
        refine Rc.goL mt_711 1 (f2 := (67, [.ref 3, .int x1_7, .int x2_8], [.int (5 : Int32), .ref 3], gm M14)) (b := true) rfl rfl ?_
        obtain ⟨u32, M30, he31, hs⟩ := ob_some hs
        refine Rc.callV (i := 58) (mid' := 706) (av := [.int (5 : Int32)]) (rest := []) (v := none) (M1 := gm M30) (a := 3) rfl rfl rfl cw_706 rfl (Nat.le_of_ble_eq_true rfl) rfl (Nat.le_of_ble_eq_true rfl) (qrd_fail_ok _ (by omega) he31) ?_
        obtain ⟨e1, e2⟩ := some_p hs; subst e1; subst e2
        exact Rc.ret (v := none) rfl rfl
    · rw [if_neg h37] at hs
      refine Rc.goL mt_711 1 (f2 := (if r13 = (63 : Int32) then 59 else 53, [.ref 3, .int x1_7, .int x2_8], [], gm M14)) (b := true) rfl rfl ?_
      rw [if_neg h37]
      refine Rc.goL mt_711 1 (f2 := (55, [.ref 3, .int x1_7, .int x2_8], [.int (1 : Int32), .ref 3], gm M14)) (b := true) rfl rfl ?_
      obtain ⟨u36, M34, he35, hs⟩ := ob_some hs
      refine Rc.callV (i := 58) (mid' := 706) (av := [.int (1 : Int32)]) (rest := []) (v := none) (M1 := gm M34) (a := 3) rfl rfl rfl cw_706 rfl (Nat.le_of_ble_eq_true rfl) rfl (Nat.le_of_ble_eq_true rfl) (qrd_fail_ok _ (by omega) he35) ?_
      obtain ⟨e1, e2⟩ := some_p hs; subst e1; subst e2
      exact Rc.ret (v := none) rfl rfl
  by_cases h41 : r4 = (60 : Int32)
  · rw [if_pos h41] at hs
    refine Rc.goL mt_711 3 (f2 := (if r4 = (60 : Int32) then 29 else 16, [.ref 3, .int x1, .int r4], [], gm M5)) (b := true) rfl rfl ?_
    rw [if_pos h41]
    refine Rc.less (ls2 := [.ref 3, .int x1, .int r4]) (by refine ⟨Or.inr rfl, Or.inr rfl, Or.inr rfl, trivial⟩) ?_
    exact Hj38 x1 r4 _ _ _ hs
  · rw [if_neg h41] at hs
    refine Rc.goL mt_711 3 (f2 := (if r4 = (60 : Int32) then 29 else 16, [.ref 3, .int x1, .int r4], [], gm M5)) (b := true) rfl rfl ?_
    rw [if_neg h41]
    by_cases h40 : r4 = (62 : Int32)
    · rw [if_pos h40] at hs
      refine Rc.goL mt_711 2 (f2 := (if r4 = (62 : Int32) then 29 else 22, [.ref 3, .int x1, .int r4], [], gm M5)) (b := true) rfl rfl ?_
      rw [if_pos h40]
      refine Rc.less (ls2 := [.ref 3, .int x1, .int r4]) (by refine ⟨Or.inr rfl, Or.inr rfl, Or.inr rfl, trivial⟩) ?_
      exact Hj38 x1 r4 _ _ _ hs
    · rw [if_neg h40] at hs
      refine Rc.goL mt_711 2 (f2 := (if r4 = (62 : Int32) then 29 else 22, [.ref 3, .int x1, .int r4], [], gm M5)) (b := true) rfl rfl ?_
      rw [if_neg h40]
      by_cases h39 : r4 = (61 : Int32)
      · rw [if_pos h39] at hs
        refine Rc.goL mt_711 2 (f2 := (if r4 = (61 : Int32) then 29 else 28, [.ref 3, .int x1, .int r4], [], gm M5)) (b := true) rfl rfl ?_
        rw [if_pos h39]
        refine Rc.less (ls2 := [.ref 3, .int x1, .int r4]) (by refine ⟨Or.inr rfl, Or.inr rfl, Or.inr rfl, trivial⟩) ?_
        exact Hj38 x1 r4 _ _ _ hs
      · rw [if_neg h39] at hs
        refine Rc.goL mt_711 2 (f2 := (if r4 = (61 : Int32) then 29 else 28, [.ref 3, .int x1, .int r4], [], gm M5)) (b := true) rfl rfl ?_
        rw [if_neg h39]
        obtain ⟨e1, e2⟩ := some_p hs; subst e1; subst e2
        exact Rc.ret (v := none) rfl rfl
def qrd_chN : Nat → Int32 → SM → Option (Unit × SM)
  | 0 => fun _ _ => none
  | n + 1 => fun o M => qrd_choice (qrd_chN n) o M
theorem qrd_chN_ok : ∀ (n d : Nat), 9 * n ≤ d → ∀ {x1 : Int32} {M : SM} {r : Unit} {Mz : SM}, qrd_chN n x1 M = some (r, Mz) → Ex d 711 [.ref 3, .int x1] (gm M) (none, gm Mz)
  | 0, d, _, _, _, _, _, h => by cases h
  | n + 1, d, hd, _, _, _, _, h => qrd_choice_ok (qrd_chN n) (9 * n) (fun d' hd' => fun h' => qrd_chN_ok n d' hd' h') d (by omega) h
def qsh_begin (s : Nat) (x1 : Int32) (x2 : Int32) (M : SM) : Option (Unit × SM) :=
  ck (kc 336 s 8) (ob (qsh_hasRoom s M) (fun r2 M3 =>
  if r2 = 0 then
  (some ((), M3)) else
  (ck ((kc 336 s 8 && decide (R0 s 4 = some (s + 3))) && (kc 336 s 8 && (av 336 20 (s + 3) (M3.1 s 3) && ((kc 336 s 8 && decide (R0 s 5 = some (s + 4))) && (kc 336 s 8 && (av 336 20 (s + 4) ((wI M3 (s + 3) (Int32.toNatClampNeg (M3.1 s 3)) x1).1 s 3) && ((kc 336 s 8 && decide (R0 s 7 = some (s + 6))) && (kc 336 s 8 && (av 336 20 (s + 6) ((wI (wI M3 (s + 3) (Int32.toNatClampNeg (M3.1 s 3)) x1) (s + 4) (Int32.toNatClampNeg ((wI M3 (s + 3) (Int32.toNatClampNeg (M3.1 s 3)) x1).1 s 3)) x2).1 s 3) && true))))))))) (
    some ((), (wI (wI (wI M3 (s + 3) (Int32.toNatClampNeg (M3.1 s 3)) x1) (s + 4) (Int32.toNatClampNeg ((wI M3 (s + 3) (Int32.toNatClampNeg (M3.1 s 3)) x1).1 s 3)) x2) (s + 6) (Int32.toNatClampNeg ((wI (wI M3 (s + 3) (Int32.toNatClampNeg (M3.1 s 3)) x1) (s + 4) (Int32.toNatClampNeg ((wI M3 (s + 3) (Int32.toNatClampNeg (M3.1 s 3)) x1).1 s 3)) x2).1 s 3)) (0 : Int32)))))))
theorem mt_803 : MT 803 K_803 LN_8 := ⟨rfl, rfl, by decide +kernel⟩
theorem okm_803 : OKm 803 := ⟨⟨vE_803, okL_8, by decide +kernel⟩, by decide +kernel, by decide +kernel, by decide +kernel⟩
set_option maxRecDepth 20000 in
theorem qsh_begin_ok (d : Nat) (hd : 2 ≤ d) {s : Nat} {x1 : Int32} {x2 : Int32} {M : SM} {r : Unit} {Mz : SM} (hs : qsh_begin s x1 x2 M = some (r, Mz)) : Ex d 803 [.ref s, .int x1, .int x2] (gm M) (none, gm Mz) := by
  obtain ⟨d, rfl⟩ : ∃ d0, d = d0 + 1 := ⟨d - 1, by omega⟩
  refine Ex.of okm_803 (by omega) (Nat.le_of_ble_eq_true rfl) ?_
  show Rc (d + 1) 803 (0, [.ref s, .int x1, .int x2], [], gm M) _
  unfold qsh_begin at hs
  refine Rc.goL mt_803 0 (f2 := (1, [.ref s, .int x1, .int x2], [.ref s], gm M)) (b := true) rfl rfl ?_
  obtain ⟨hk1, hs⟩ := ck_some hs
  obtain ⟨r2, M3, he4, hs⟩ := ob_some hs
  refine Rc.callV (i := 47) (mid' := 806) (av := []) (rest := []) (v := some (.int r2)) (M1 := gm M3) (a := s) rfl rfl rfl cw_806 hk1 (Nat.le_of_ble_eq_true rfl) rfl (Nat.le_of_ble_eq_true rfl) (qsh_hasRoom_ok _ (by omega) he4) ?_
  by_cases h6 : r2 = 0
  · rw [if_pos h6] at hs
    refine Rc.goL mt_803 0 (f2 := (if r2 = 0 then 7 else 8, [.ref s, .int x1, .int x2], [], gm M3)) (b := true) rfl rfl ?_
    rw [if_pos h6]
    obtain ⟨e1, e2⟩ := some_p hs; subst e1; subst e2
    exact Rc.ret (v := none) rfl rfl
  · rw [if_neg h6] at hs
    refine Rc.goL mt_803 0 (f2 := (if r2 = 0 then 7 else 8, [.ref s, .int x1, .int x2], [], gm M3)) (b := true) rfl rfl ?_
    rw [if_neg h6]
    obtain ⟨hb5, hs⟩ := ck_some hs
    obtain ⟨hb5_0, hb5⟩ := and_t hb5
    obtain ⟨hb5_1, hb5⟩ := and_t hb5
    obtain ⟨hb5_2, hb5⟩ := and_t hb5
    obtain ⟨hb5_3, hb5⟩ := and_t hb5
    obtain ⟨hb5_4, hb5⟩ := and_t hb5
    obtain ⟨hb5_5, hb5⟩ := and_t hb5
    obtain ⟨hb5_6, hb5⟩ := and_t hb5
    obtain ⟨hb5_7, hb5⟩ := and_t hb5
    obtain ⟨hb5_8, hb5⟩ := and_t hb5
    refine Rc.goL mt_803 5 (f2 := (18, [.ref s, .int x1, .int x2], [], gm (wI M3 (s + 3) (Int32.toNatClampNeg (M3.1 s 3)) x1))) (b := ((kc 336 s 8 && decide (R0 s 4 = some (s + 3))) && (kc 336 s 8 && (av 336 20 (s + 3) (M3.1 s 3) && true)))) rfl (and_i hb5_0 (and_i hb5_1 (and_i hb5_2 rfl))) ?_
    refine Rc.goL mt_803 5 (f2 := (28, [.ref s, .int x1, .int x2], [], gm (wI (wI M3 (s + 3) (Int32.toNatClampNeg (M3.1 s 3)) x1) (s + 4) (Int32.toNatClampNeg ((wI M3 (s + 3) (Int32.toNatClampNeg (M3.1 s 3)) x1).1 s 3)) x2))) (b := ((kc 336 s 8 && decide (R0 s 5 = some (s + 4))) && (kc 336 s 8 && (av 336 20 (s + 4) ((wI M3 (s + 3) (Int32.toNatClampNeg (M3.1 s 3)) x1).1 s 3) && true)))) rfl (and_i hb5_3 (and_i hb5_4 (and_i hb5_5 rfl))) ?_
    refine Rc.goL mt_803 5 (f2 := (38, [.ref s, .int x1, .int x2], [], gm (wI (wI (wI M3 (s + 3) (Int32.toNatClampNeg (M3.1 s 3)) x1) (s + 4) (Int32.toNatClampNeg ((wI M3 (s + 3) (Int32.toNatClampNeg (M3.1 s 3)) x1).1 s 3)) x2) (s + 6) (Int32.toNatClampNeg ((wI (wI M3 (s + 3) (Int32.toNatClampNeg (M3.1 s 3)) x1) (s + 4) (Int32.toNatClampNeg ((wI M3 (s + 3) (Int32.toNatClampNeg (M3.1 s 3)) x1).1 s 3)) x2).1 s 3)) (0 : Int32)))) (b := ((kc 336 s 8 && decide (R0 s 7 = some (s + 6))) && (kc 336 s 8 && (av 336 20 (s + 6) ((wI (wI M3 (s + 3) (Int32.toNatClampNeg (M3.1 s 3)) x1) (s + 4) (Int32.toNatClampNeg ((wI M3 (s + 3) (Int32.toNatClampNeg (M3.1 s 3)) x1).1 s 3)) x2).1 s 3) && true)))) rfl (and_i hb5_6 (and_i hb5_7 (and_i hb5_8 rfl))) ?_
    obtain ⟨e1, e2⟩ := some_p hs; subst e1; subst e2
    exact Rc.ret (v := none) rfl rfl
def qsh_end (s : Nat) (M : SM) : Option (Unit × SM) :=
  ck (kc 336 s 8) (ob (qsh_hasRoom s M) (fun r2 M3 =>
  if r2 = 0 then
  (some ((), M3)) else
  (ck ((kc 336 s 8 && decide (R0 s 6 = some (s + 5))) && (kc 336 s 8 && (kc 336 s 8 && (av 336 20 (s + 5) (M3.1 s 3) && (kc 336 s 8 && (kc 336 s 8 && true)))))) (
    some ((), (wI (wI M3 (s + 5) (Int32.toNatClampNeg (M3.1 s 3)) (M3.1 s 2)) s 3 (((wI M3 (s + 5) (Int32.toNatClampNeg (M3.1 s 3)) (M3.1 s 2)).1 s 3) + (1 : Int32))))))))
theorem mt_805 : MT 805 K_805 LN_8 := ⟨rfl, rfl, by decide +kernel⟩
theorem okm_805 : OKm 805 := ⟨⟨vE_805, okL_8, by decide +kernel⟩, by decide +kernel, by decide +kernel, by decide +kernel⟩
set_option maxRecDepth 20000 in
theorem qsh_end_ok (d : Nat) (hd : 2 ≤ d) {s : Nat} {M : SM} {r : Unit} {Mz : SM} (hs : qsh_end s M = some (r, Mz)) : Ex d 805 [.ref s] (gm M) (none, gm Mz) := by
  obtain ⟨d, rfl⟩ : ∃ d0, d = d0 + 1 := ⟨d - 1, by omega⟩
  refine Ex.of okm_805 (by omega) (Nat.le_of_ble_eq_true rfl) ?_
  show Rc (d + 1) 805 (0, [.ref s], [], gm M) _
  unfold qsh_end at hs
  refine Rc.goL mt_805 0 (f2 := (1, [.ref s], [.ref s], gm M)) (b := true) rfl rfl ?_
  obtain ⟨hk1, hs⟩ := ck_some hs
  obtain ⟨r2, M3, he4, hs⟩ := ob_some hs
  refine Rc.callV (i := 47) (mid' := 806) (av := []) (rest := []) (v := some (.int r2)) (M1 := gm M3) (a := s) rfl rfl rfl cw_806 hk1 (Nat.le_of_ble_eq_true rfl) rfl (Nat.le_of_ble_eq_true rfl) (qsh_hasRoom_ok _ (by omega) he4) ?_
  by_cases h6 : r2 = 0
  · rw [if_pos h6] at hs
    refine Rc.goL mt_805 0 (f2 := (if r2 = 0 then 7 else 8, [.ref s], [], gm M3)) (b := true) rfl rfl ?_
    rw [if_pos h6]
    obtain ⟨e1, e2⟩ := some_p hs; subst e1; subst e2
    exact Rc.ret (v := none) rfl rfl
  · rw [if_neg h6] at hs
    refine Rc.goL mt_805 0 (f2 := (if r2 = 0 then 7 else 8, [.ref s], [], gm M3)) (b := true) rfl rfl ?_
    rw [if_neg h6]
    obtain ⟨hb5, hs⟩ := ck_some hs
    obtain ⟨hb5_0, hb5⟩ := and_t hb5
    obtain ⟨hb5_1, hb5⟩ := and_t hb5
    obtain ⟨hb5_2, hb5⟩ := and_t hb5
    obtain ⟨hb5_3, hb5⟩ := and_t hb5
    obtain ⟨hb5_4, hb5⟩ := and_t hb5
    obtain ⟨hb5_5, hb5⟩ := and_t hb5
    refine Rc.goL mt_805 6 (f2 := (21, [.ref s], [], gm (wI M3 (s + 5) (Int32.toNatClampNeg (M3.1 s 3)) (M3.1 s 2)))) (b := ((kc 336 s 8 && decide (R0 s 6 = some (s + 5))) && (kc 336 s 8 && (kc 336 s 8 && (av 336 20 (s + 5) (M3.1 s 3) && true))))) rfl (and_i hb5_0 (and_i hb5_1 (and_i hb5_2 (and_i hb5_3 rfl)))) ?_
    refine Rc.goL mt_805 5 (f2 := (31, [.ref s], [], gm (wI (wI M3 (s + 5) (Int32.toNatClampNeg (M3.1 s 3)) (M3.1 s 2)) s 3 (((wI M3 (s + 5) (Int32.toNatClampNeg (M3.1 s 3)) (M3.1 s 2)).1 s 3) + (1 : Int32))))) (b := (kc 336 s 8 && (kc 336 s 8 && true))) rfl (and_i hb5_4 (and_i hb5_5 rfl)) ?_
    obtain ⟨e1, e2⟩ := some_p hs; subst e1; subst e2
    exact Rc.ret (v := none) rfl rfl
def qsh_hasFormula_L2 : Nat → Nat → Int32 → Int32 → SM → Option (Int32 × SM)
  | 0, _, _, _, _ => none
  | n + 1, x0, x1, x2, M =>
    ck (kc 336 x0 8 && true) (
    if x2 < (M.1 x0 3) then
    (ck (kc 336 x0 8) (ob (qsh_letterOf x0 x2 M) (fun r3 M4 =>
      if r3 = x1 then
      (some ((1 : Int32), M4)) else
      (qsh_hasFormula_L2 n x0 x1 (x2 + (1 : Int32)) M4)))) else
    (some ((0 : Int32), M)))
def qsh_hasFormula (s : Nat) (x1 : Int32) (M : SM) : Option (Int32 × SM) :=
  qsh_hasFormula_L2 FU s x1 (0 : Int32) M
theorem mt_808 : MT 808 K_808 LN_8 := ⟨rfl, rfl, by decide +kernel⟩
theorem okm_808 : OKm 808 := ⟨⟨vE_808, okL_8, by decide +kernel⟩, by decide +kernel, by decide +kernel, by decide +kernel⟩
set_option maxRecDepth 20000 in
theorem qsh_hasFormula_L2_ok (d : Nat) (hd : 3 ≤ d + 1) : ∀ (n : Nat) (x0 : Nat) (x1 : Int32) (x2 : Int32) (M : SM) (r : Int32) (Mz : SM), qsh_hasFormula_L2 n x0 x1 x2 M = some (r, Mz) → Rc (d + 1) 808 (2, [.ref x0, .int x1, .int x2], [], gm M) (some (.int r), gm Mz) := by
  intro n
  induction n with
  | zero => intro x0 x1 x2 M r Mz hs; cases hs
  | succ n ih =>
    intro x0 x1 x2 M r Mz hs
    rw [qsh_hasFormula_L2] at hs
    obtain ⟨hb1, hs⟩ := ck_some hs
    by_cases h7 : x2 < (M.1 x0 3)
    · rw [if_pos h7] at hs
      refine Rc.goL mt_808 3 (f2 := (if x2 < (M.1 x0 3) then 10 else 27, [.ref x0, .int x1, .int x2], [], gm M)) (b := (kc 336 x0 8 && true)) rfl hb1 ?_
      rw [if_pos h7]
      refine Rc.goL mt_808 1 (f2 := (12, [.ref x0, .int x1, .int x2], [.int x2, .ref x0], gm M)) (b := true) rfl rfl ?_
      obtain ⟨hk2, hs⟩ := ck_some hs
      obtain ⟨r3, M4, he5, hs⟩ := ob_some hs
      refine Rc.callV (i := 51) (mid' := 809) (av := [.int x2]) (rest := []) (v := some (.int r3)) (M1 := gm M4) (a := x0) rfl rfl rfl cw_809 hk2 (Nat.le_of_ble_eq_true rfl) rfl (Nat.le_of_ble_eq_true rfl) (qsh_letterOf_ok _ (by omega) he5) ?_
      by_cases h6 : r3 = x1
      · rw [if_pos h6] at hs
        refine Rc.goL mt_808 1 (f2 := (if r3 = x1 then 19 else 21, [.ref x0, .int x1, .int x2], [], gm M4)) (b := true) rfl rfl ?_
        rw [if_pos h6]
        refine Rc.goL mt_808 0 (f2 := (20, [.ref x0, .int x1, .int x2], [.int (1 : Int32)], gm M4)) (b := true) rfl rfl ?_
        obtain ⟨e1, e2⟩ := some_p hs; subst e1; subst e2
        exact Rc.ret (v := some (.int (1 : Int32))) rfl rfl
      · rw [if_neg h6] at hs
        refine Rc.goL mt_808 1 (f2 := (if r3 = x1 then 19 else 21, [.ref x0, .int x1, .int x2], [], gm M4)) (b := true) rfl rfl ?_
        rw [if_neg h6]
        refine Rc.goL mt_808 1 (f2 := (2, [.ref x0, .int x1, .int (x2 + (1 : Int32))], [], gm M4)) (b := true) rfl rfl ?_
        refine Rc.less (ls2 := [.ref x0, .int x1, .int (x2 + (1 : Int32))]) (by refine ⟨Or.inr rfl, Or.inr rfl, Or.inr rfl, trivial⟩) ?_
        exact ih x0 x1 (x2 + (1 : Int32)) _ _ _ hs
    · rw [if_neg h7] at hs
      refine Rc.goL mt_808 3 (f2 := (if x2 < (M.1 x0 3) then 10 else 27, [.ref x0, .int x1, .int x2], [], gm M)) (b := (kc 336 x0 8 && true)) rfl hb1 ?_
      rw [if_neg h7]
      refine Rc.goL mt_808 0 (f2 := (28, [.ref x0, .int x1, .int x2], [.int (0 : Int32)], gm M)) (b := true) rfl rfl ?_
      obtain ⟨e1, e2⟩ := some_p hs; subst e1; subst e2
      exact Rc.ret (v := some (.int (0 : Int32))) rfl rfl
set_option maxRecDepth 20000 in
theorem qsh_hasFormula_ok (d : Nat) (hd : 3 ≤ d) {s : Nat} {x1 : Int32} {M : SM} {r : Int32} {Mz : SM} (hs : qsh_hasFormula s x1 M = some (r, Mz)) : Ex d 808 [.ref s, .int x1] (gm M) (some (.int r), gm Mz) := by
  obtain ⟨d, rfl⟩ : ∃ d0, d = d0 + 1 := ⟨d - 1, by omega⟩
  refine Ex.of okm_808 (by omega) (Nat.le_of_ble_eq_true rfl) ?_
  show Rc (d + 1) 808 (0, [.ref s, .int x1, UU], [], gm M) _
  unfold qsh_hasFormula at hs
  refine Rc.goL mt_808 1 (f2 := (2, [.ref s, .int x1, .int (0 : Int32)], [], gm M)) (b := true) rfl rfl ?_
  refine Rc.less (ls2 := [.ref s, .int x1, .int (0 : Int32)]) (by refine ⟨Or.inr rfl, Or.inr rfl, Or.inr rfl, trivial⟩) ?_
  exact qsh_hasFormula_L2_ok d hd _ s x1 (0 : Int32) _ _ _ hs
def qrd_formula (M : SM) : Option (Unit × SM) :=
  ob (qrd_next M) (fun r1 M2 =>
  jn (fun (x1_4 : Int32) (M5 : SM) =>
    if (M5.1 3 4) = 0 then
      (ck (decide (¬ (M5.1 3 1) < 0) && true) (
        ck (kc 336 (Int32.toNatClampNeg (M5.1 3 1)) 8) (ob (qsh_begin (Int32.toNatClampNeg (M5.1 3 1)) (x1_4 - (65 : Int32)) (M5.1 3 3) M5) (fun _ M8 =>
        ob (qrd_expect (61 : Int32) (wI M8 3 3 ((M8.1 3 3) + (1 : Int32)))) (fun _ M11 =>
        ob ((qrd_chN 10) (0 : Int32) M11) (fun _ M14 =>
        ck (decide (¬ (M14.1 3 1) < 0) && true) (
        ck (kc 336 (Int32.toNatClampNeg (M14.1 3 1)) 8) (ob (qsh_end (Int32.toNatClampNeg (M14.1 3 1)) M14) (fun _ M19 =>
        some ((), M19)))))))))) else
      (some ((), M5))) (fun j23 =>
  jn (fun (x1_24 : Int32) (M25 : SM) =>
    ob (qrd_fail (1 : Int32) M25) (fun _ M26 =>
      j23 x1_24 M26)) (fun j29 =>
  if r1 < (65 : Int32) then
  (j29 r1 M2) else
  (if (90 : Int32) < r1 then
    (j29 r1 M2) else
    (ck (decide (¬ (M2.1 3 1) < 0) && true) (
      ck (kc 336 (Int32.toNatClampNeg (M2.1 3 1)) 8) (ob (qsh_hasFormula (Int32.toNatClampNeg (M2.1 3 1)) (r1 - (65 : Int32)) M2) (fun r32 M33 =>
      if r32 = 0 then
      (ck (decide (¬ (M33.1 3 1) < 0) && true) (
        ck (kc 336 (Int32.toNatClampNeg (M33.1 3 1)) 8) (ob (qsh_hasRoom (Int32.toNatClampNeg (M33.1 3 1)) M33) (fun r37 M38 =>
        if r37 = 0 then
        (ob (qrd_fail (4 : Int32) M38) (fun _ M40 =>
          j23 r1 M40)) else
        (j23 r1 M38))))) else
      (ob (qrd_fail (3 : Int32) M33) (fun _ M44 =>
        j23 r1 M44))))))))))
theorem mt_710 : MT 710 K_710 LN_7 := ⟨rfl, rfl, by decide +kernel⟩
theorem okm_710 : OKm 710 := ⟨⟨vE_710, okL_7, by decide +kernel⟩, by decide +kernel, by decide +kernel, by decide +kernel⟩
set_option maxRecDepth 20000 in
theorem qrd_formula_ok (d : Nat) (hd : 101 ≤ d) {M : SM} {r : Unit} {Mz : SM} (hs : qrd_formula M = some (r, Mz)) : Ex d 710 [.ref 3] (gm M) (none, gm Mz) := by
  obtain ⟨d, rfl⟩ : ∃ d0, d = d0 + 1 := ⟨d - 1, by omega⟩
  refine Ex.of okm_710 (by omega) (Nat.le_of_ble_eq_true rfl) ?_
  show Rc (d + 1) 710 (0, [.ref 3, UU], [], gm M) _
  unfold qrd_formula at hs
  refine Rc.goL mt_710 0 (f2 := (1, [.ref 3, UU], [.ref 3], gm M)) (b := true) rfl rfl ?_
  obtain ⟨r1, M2, he3, hs⟩ := ob_some hs
  refine Rc.callV (i := 35) (mid' := 705) (av := []) (rest := []) (v := some (.int r1)) (M1 := gm M2) (a := 3) rfl rfl rfl cw_705 rfl (Nat.le_of_ble_eq_true rfl) rfl (Nat.le_of_ble_eq_true rfl) (qrd_next_ok _ (by omega) he3) ?_
  refine jn_e (P := fun (j : Int32 → SM → Option (Unit × SM)) => ∀ (x1_4 : Int32) (M5 : SM) (r : Unit) (Mz : SM), j x1_4 M5 = some (r, Mz) → Rc (d + 1) 710 (62, [.ref 3, .int x1_4], [], gm M5) (none, gm Mz)) hs ?_ (fun j23 Hj23 hs => ?_)
  · intro x1_4 M5 r Mz hs
    try dsimp only at hs
    by_cases h22 : (M5.1 3 4) = 0
    · rw [if_pos h22] at hs
      refine Rc.goL mt_710 2 (f2 := (if (M5.1 3 4) = 0 then 70 else 69, [.ref 3, .int x1_4], [], gm M5)) (b := true) rfl rfl ?_
      rw [if_pos h22]
      obtain ⟨hb6, hs⟩ := ck_some hs
      obtain ⟨hb6_0, hb6⟩ := and_t hb6
      refine Rc.goL mt_710 6 (f2 := (82, [.ref 3, .int x1_4], [.int (M5.1 3 3), .int (x1_4 - (65 : Int32)), .ref (Int32.toNatClampNeg (M5.1 3 1))], gm M5)) (b := (decide (¬ (M5.1 3 1) < 0) && true)) rfl (and_i hb6_0 rfl) ?_
      obtain ⟨hk7, hs⟩ := ck_some hs
      obtain ⟨u10, M8, he9, hs⟩ := ob_some hs
      refine Rc.callV (i := 54) (mid' := 803) (av := [.int (x1_4 - (65 : Int32)), .int (M5.1 3 3)]) (rest := []) (v := none) (M1 := gm M8) (a := (Int32.toNatClampNeg (M5.1 3 1))) rfl rfl rfl cw_803 hk7 (Nat.le_of_ble_eq_true rfl) rfl (Nat.le_of_ble_eq_true rfl) (qsh_begin_ok _ (by omega) he9) ?_
      refine Rc.goL mt_710 5 (f2 := (95, [.ref 3, .int x1_4], [], gm (wI M8 3 3 ((M8.1 3 3) + (1 : Int32))))) (b := true) rfl rfl ?_
      refine Rc.goL mt_710 1 (f2 := (98, [.ref 3, .int x1_4], [.int (61 : Int32), .ref 3], gm (wI M8 3 3 ((M8.1 3 3) + (1 : Int32))))) (b := true) rfl rfl ?_
      obtain ⟨u13, M11, he12, hs⟩ := ob_some hs
      refine Rc.callV (i := 100) (mid' := 707) (av := [.int (61 : Int32)]) (rest := []) (v := none) (M1 := gm M11) (a := 3) rfl rfl rfl cw_707 rfl (Nat.le_of_ble_eq_true rfl) rfl (Nat.le_of_ble_eq_true rfl) (qrd_expect_ok _ (by omega) he12) ?_
      refine Rc.goL mt_710 1 (f2 := (103, [.ref 3, .int x1_4], [.int (0 : Int32), .ref 3], gm M11)) (b := true) rfl rfl ?_
      obtain ⟨u16, M14, he15, hs⟩ := ob_some hs
      refine Rc.callV (i := 65) (mid' := 711) (av := [.int (0 : Int32)]) (rest := []) (v := none) (M1 := gm M14) (a := 3) rfl rfl rfl cw_711 rfl (Nat.le_of_ble_eq_true rfl) rfl (Nat.le_of_ble_eq_true rfl) (qrd_chN_ok 10 _ (by omega) he15) ?_
      obtain ⟨hb17, hs⟩ := ck_some hs
      refine Rc.goL mt_710 1 (f2 := (110, [.ref 3, .int x1_4], [.ref (Int32.toNatClampNeg (M14.1 3 1))], gm M14)) (b := (decide (¬ (M14.1 3 1) < 0) && true)) rfl hb17 ?_
      obtain ⟨hk18, hs⟩ := ck_some hs
      obtain ⟨u21, M19, he20, hs⟩ := ob_some hs
      refine Rc.callV (i := 68) (mid' := 805) (av := []) (rest := []) (v := none) (M1 := gm M19) (a := (Int32.toNatClampNeg (M14.1 3 1))) rfl rfl rfl cw_805 hk18 (Nat.le_of_ble_eq_true rfl) rfl (Nat.le_of_ble_eq_true rfl) (qsh_end_ok _ (by omega) he20) ?_
      obtain ⟨e1, e2⟩ := some_p hs; subst e1; subst e2
      exact Rc.ret (v := none) rfl rfl
    · rw [if_neg h22] at hs
      refine Rc.goL mt_710 2 (f2 := (if (M5.1 3 4) = 0 then 70 else 69, [.ref 3, .int x1_4], [], gm M5)) (b := true) rfl rfl ?_
      rw [if_neg h22]
      obtain ⟨e1, e2⟩ := some_p hs; subst e1; subst e2
      exact Rc.ret (v := none) rfl rfl
  refine jn_e (P := fun (j : Int32 → SM → Option (Unit × SM)) => ∀ (x1_24 : Int32) (M25 : SM) (r : Unit) (Mz : SM), j x1_24 M25 = some (r, Mz) → Rc (d + 1) 710 (17, [.ref 3, .int x1_24], [], gm M25) (none, gm Mz)) hs ?_ (fun j29 Hj29 hs => ?_)
  · intro x1_24 M25 r Mz hs
    try dsimp only at hs
    refine Rc.goL mt_710 1 (f2 := (19, [.ref 3, .int x1_24], [.int (1 : Int32), .ref 3], gm M25)) (b := true) rfl rfl ?_
    obtain ⟨u28, M26, he27, hs⟩ := ob_some hs
    refine Rc.callV (i := 58) (mid' := 706) (av := [.int (1 : Int32)]) (rest := []) (v := none) (M1 := gm M26) (a := 3) rfl rfl rfl cw_706 rfl (Nat.le_of_ble_eq_true rfl) rfl (Nat.le_of_ble_eq_true rfl) (qrd_fail_ok _ (by omega) he27) ?_
    refine Rc.goL mt_710 0 (f2 := (62, [.ref 3, .int x1_24], [], gm M26)) (b := true) rfl rfl ?_
    refine Rc.less (ls2 := [.ref 3, .int x1_24]) (by refine ⟨Or.inr rfl, Or.inr rfl, trivial⟩) ?_
    exact Hj23 x1_24 _ _ _ hs
  by_cases h49 : r1 < (65 : Int32)
  · rw [if_pos h49] at hs
    refine Rc.goL mt_710 3 (f2 := (if r1 < (65 : Int32) then 17 else 11, [.ref 3, .int r1], [], gm M2)) (b := true) rfl rfl ?_
    rw [if_pos h49]
    refine Rc.less (ls2 := [.ref 3, .int r1]) (by refine ⟨Or.inr rfl, Or.inr rfl, trivial⟩) ?_
    exact Hj29 r1 _ _ _ hs
  · rw [if_neg h49] at hs
    refine Rc.goL mt_710 3 (f2 := (if r1 < (65 : Int32) then 17 else 11, [.ref 3, .int r1], [], gm M2)) (b := true) rfl rfl ?_
    rw [if_neg h49]
    by_cases h48 : (90 : Int32) < r1
    · rw [if_pos h48] at hs
      refine Rc.goL mt_710 2 (f2 := (if (90 : Int32) < r1 then 17 else 25, [.ref 3, .int r1], [], gm M2)) (b := true) rfl rfl ?_
      rw [if_pos h48]
      refine Rc.less (ls2 := [.ref 3, .int r1]) (by refine ⟨Or.inr rfl, Or.inr rfl, trivial⟩) ?_
      exact Hj29 r1 _ _ _ hs
    · rw [if_neg h48] at hs
      refine Rc.goL mt_710 2 (f2 := (if (90 : Int32) < r1 then 17 else 25, [.ref 3, .int r1], [], gm M2)) (b := true) rfl rfl ?_
      rw [if_neg h48]
      obtain ⟨hb30, hs⟩ := ck_some hs
      refine Rc.goL mt_710 4 (f2 := (33, [.ref 3, .int r1], [.int (r1 - (65 : Int32)), .ref (Int32.toNatClampNeg (M2.1 3 1))], gm M2)) (b := (decide (¬ (M2.1 3 1) < 0) && true)) rfl hb30 ?_
      obtain ⟨hk31, hs⟩ := ck_some hs
      obtain ⟨r32, M33, he34, hs⟩ := ob_some hs
      refine Rc.callV (i := 92) (mid' := 808) (av := [.int (r1 - (65 : Int32))]) (rest := []) (v := some (.int r32)) (M1 := gm M33) (a := (Int32.toNatClampNeg (M2.1 3 1))) rfl rfl rfl cw_808 hk31 (Nat.le_of_ble_eq_true rfl) rfl (Nat.le_of_ble_eq_true rfl) (qsh_hasFormula_ok _ (by omega) he34) ?_
      by_cases h47 : r32 = 0
      · rw [if_pos h47] at hs
        refine Rc.goL mt_710 0 (f2 := (if r32 = 0 then 47 else 39, [.ref 3, .int r1], [], gm M33)) (b := true) rfl rfl ?_
        rw [if_pos h47]
        obtain ⟨hb35, hs⟩ := ck_some hs
        refine Rc.goL mt_710 1 (f2 := (51, [.ref 3, .int r1], [.ref (Int32.toNatClampNeg (M33.1 3 1))], gm M33)) (b := (decide (¬ (M33.1 3 1) < 0) && true)) rfl hb35 ?_
        obtain ⟨hk36, hs⟩ := ck_some hs
        obtain ⟨r37, M38, he39, hs⟩ := ob_some hs
        refine Rc.callV (i := 96) (mid' := 806) (av := []) (rest := []) (v := some (.int r37)) (M1 := gm M38) (a := (Int32.toNatClampNeg (M33.1 3 1))) rfl rfl rfl cw_806 hk36 (Nat.le_of_ble_eq_true rfl) rfl (Nat.le_of_ble_eq_true rfl) (qsh_hasRoom_ok _ (by omega) he39) ?_
        by_cases h43 : r37 = 0
        · rw [if_pos h43] at hs
          refine Rc.goL mt_710 0 (f2 := (if r37 = 0 then 57 else 62, [.ref 3, .int r1], [], gm M38)) (b := true) rfl rfl ?_
          rw [if_pos h43]
          refine Rc.goL mt_710 1 (f2 := (59, [.ref 3, .int r1], [.int (4 : Int32), .ref 3], gm M38)) (b := true) rfl rfl ?_
          obtain ⟨u42, M40, he41, hs⟩ := ob_some hs
          refine Rc.callV (i := 58) (mid' := 706) (av := [.int (4 : Int32)]) (rest := []) (v := none) (M1 := gm M40) (a := 3) rfl rfl rfl cw_706 rfl (Nat.le_of_ble_eq_true rfl) rfl (Nat.le_of_ble_eq_true rfl) (qrd_fail_ok _ (by omega) he41) ?_
          refine Rc.less (ls2 := [.ref 3, .int r1]) (by refine ⟨Or.inr rfl, Or.inr rfl, trivial⟩) ?_
          exact Hj23 r1 _ _ _ hs
        · rw [if_neg h43] at hs
          refine Rc.goL mt_710 0 (f2 := (if r37 = 0 then 57 else 62, [.ref 3, .int r1], [], gm M38)) (b := true) rfl rfl ?_
          rw [if_neg h43]
          refine Rc.less (ls2 := [.ref 3, .int r1]) (by refine ⟨Or.inr rfl, Or.inr rfl, trivial⟩) ?_
          exact Hj23 r1 _ _ _ hs
      · rw [if_neg h47] at hs
        refine Rc.goL mt_710 0 (f2 := (if r32 = 0 then 47 else 39, [.ref 3, .int r1], [], gm M33)) (b := true) rfl rfl ?_
        rw [if_neg h47]
        refine Rc.goL mt_710 1 (f2 := (41, [.ref 3, .int r1], [.int (3 : Int32), .ref 3], gm M33)) (b := true) rfl rfl ?_
        obtain ⟨u46, M44, he45, hs⟩ := ob_some hs
        refine Rc.callV (i := 58) (mid' := 706) (av := [.int (3 : Int32)]) (rest := []) (v := none) (M1 := gm M44) (a := 3) rfl rfl rfl cw_706 rfl (Nat.le_of_ble_eq_true rfl) rfl (Nat.le_of_ble_eq_true rfl) (qrd_fail_ok _ (by omega) he45) ?_
        refine Rc.goL mt_710 0 (f2 := (62, [.ref 3, .int r1], [], gm M44)) (b := true) rfl rfl ?_
        refine Rc.less (ls2 := [.ref 3, .int r1]) (by refine ⟨Or.inr rfl, Or.inr rfl, trivial⟩) ?_
        exact Hj23 r1 _ _ _ hs
