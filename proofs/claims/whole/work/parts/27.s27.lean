def qtn_setOver (x1 : Int32) (x2 : Int32) (M : SM) : Option (Unit × SM) :=
  ob (qtn_hasMaster x1 M) (fun r1 M2 =>
  if r1 = 0 then
  (some ((), M2)) else
  (ck (ib 6 x1 && true) (
    some ((), (wI M2 181 (Int32.toNatClampNeg x1) x2)))))
theorem mt_1021 : MT 1021 K_1021 LN_10 := ⟨rfl, rfl, by decide +kernel⟩
theorem okm_1021 : OKm 1021 := ⟨⟨vE_1021, okL_10, by decide +kernel⟩, by decide +kernel, by decide +kernel, by decide +kernel⟩
set_option maxRecDepth 20000 in
theorem qtn_setOver_ok (d : Nat) (hd : 2 ≤ d) {x1 : Int32} {x2 : Int32} {M : SM} {r : Unit} {Mz : SM} (hs : qtn_setOver x1 x2 M = some (r, Mz)) : Ex d 1021 [.ref 179, .int x1, .int x2] (gm M) (none, gm Mz) := by
  obtain ⟨d, rfl⟩ : ∃ d0, d = d0 + 1 := ⟨d - 1, by omega⟩
  refine Ex.of okm_1021 (by omega) (Nat.le_of_ble_eq_true rfl) ?_
  show Rc (d + 1) 1021 (0, [.ref 179, .int x1, .int x2], [], gm M) _
  unfold qtn_setOver at hs
  refine Rc.goL mt_1021 1 (f2 := (2, [.ref 179, .int x1, .int x2], [.int x1, .ref 179], gm M)) (b := true) rfl rfl ?_
  obtain ⟨r1, M2, he3, hs⟩ := ob_some hs
  refine Rc.callV (i := 52) (mid' := 1002) (av := [.int x1]) (rest := []) (v := some (.int r1)) (M1 := gm M2) (a := 179) rfl rfl rfl cw_1002 rfl (Nat.le_of_ble_eq_true rfl) rfl (Nat.le_of_ble_eq_true rfl) (qtn_hasMaster_ok _ (by omega) he3) ?_
  by_cases h5 : r1 = 0
  · rw [if_pos h5] at hs
    refine Rc.goL mt_1021 0 (f2 := (if r1 = 0 then 15 else 8, [.ref 179, .int x1, .int x2], [], gm M2)) (b := true) rfl rfl ?_
    rw [if_pos h5]
    obtain ⟨e1, e2⟩ := some_p hs; subst e1; subst e2
    exact Rc.ret (v := none) rfl rfl
  · rw [if_neg h5] at hs
    refine Rc.goL mt_1021 0 (f2 := (if r1 = 0 then 15 else 8, [.ref 179, .int x1, .int x2], [], gm M2)) (b := true) rfl rfl ?_
    rw [if_neg h5]
    obtain ⟨hb4, hs⟩ := ck_some hs
    refine Rc.goL mt_1021 4 (f2 := (15, [.ref 179, .int x1, .int x2], [], gm (wI M2 181 (Int32.toNatClampNeg x1) x2))) (b := (ib 6 x1 && true)) rfl hb4 ?_
    obtain ⟨e1, e2⟩ := some_p hs; subst e1; subst e2
    exact Rc.ret (v := none) rfl rfl
def qtn_kindOfOwner (x1 : Int32) (M : SM) : Option (Int32 × SM) :=
  ob (qtn_isOwn x1 M) (fun r1 M2 =>
  if r1 = 0 then
  (ob (qtn_masterOf x1 M2) (fun r4 M5 =>
    ob (qtn_isBagman r4 M5) (fun r7 M8 =>
    if r7 = 0 then
    (some ((0 : Int32), M8)) else
    (some ((1 : Int32), M8))))) else
  (some ((2 : Int32), M2)))
theorem mt_1022 : MT 1022 K_1022 LN_10 := ⟨rfl, rfl, by decide +kernel⟩
theorem okm_1022 : OKm 1022 := ⟨⟨vE_1022, okL_10, by decide +kernel⟩, by decide +kernel, by decide +kernel, by decide +kernel⟩
set_option maxRecDepth 20000 in
theorem qtn_kindOfOwner_ok (d : Nat) (hd : 3 ≤ d) {x1 : Int32} {M : SM} {r : Int32} {Mz : SM} (hs : qtn_kindOfOwner x1 M = some (r, Mz)) : Ex d 1022 [.ref 179, .int x1] (gm M) (some (.int r), gm Mz) := by
  obtain ⟨d, rfl⟩ : ∃ d0, d = d0 + 1 := ⟨d - 1, by omega⟩
  refine Ex.of okm_1022 (by omega) (Nat.le_of_ble_eq_true rfl) ?_
  show Rc (d + 1) 1022 (0, [.ref 179, .int x1], [], gm M) _
  unfold qtn_kindOfOwner at hs
  refine Rc.goL mt_1022 1 (f2 := (2, [.ref 179, .int x1], [.int x1, .ref 179], gm M)) (b := true) rfl rfl ?_
  obtain ⟨r1, M2, he3, hs⟩ := ob_some hs
  refine Rc.callV (i := 72) (mid' := 1007) (av := [.int x1]) (rest := []) (v := some (.int r1)) (M1 := gm M2) (a := 179) rfl rfl rfl cw_1007 rfl (Nat.le_of_ble_eq_true rfl) rfl (Nat.le_of_ble_eq_true rfl) (qtn_isOwn_ok _ (by omega) he3) ?_
  by_cases h11 : r1 = 0
  · rw [if_pos h11] at hs
    refine Rc.goL mt_1022 0 (f2 := (if r1 = 0 then 10 else 8, [.ref 179, .int x1], [], gm M2)) (b := true) rfl rfl ?_
    rw [if_pos h11]
    refine Rc.goL mt_1022 2 (f2 := (13, [.ref 179, .int x1], [.int x1, .ref 179, .ref 179], gm M2)) (b := true) rfl rfl ?_
    obtain ⟨r4, M5, he6, hs⟩ := ob_some hs
    refine Rc.callV (i := 75) (mid' := 1018) (av := [.int x1]) (rest := [.ref 179]) (v := some (.int r4)) (M1 := gm M5) (a := 179) rfl rfl rfl cw_1018 rfl (Nat.le_of_ble_eq_true rfl) rfl (Nat.le_of_ble_eq_true rfl) (qtn_masterOf_ok _ (by omega) he6) ?_
    obtain ⟨r7, M8, he9, hs⟩ := ob_some hs
    refine Rc.callV (i := 79) (mid' := 1006) (av := [.int r4]) (rest := []) (v := some (.int r7)) (M1 := gm M8) (a := 179) rfl rfl rfl cw_1006 rfl (Nat.le_of_ble_eq_true rfl) rfl (Nat.le_of_ble_eq_true rfl) (qtn_isBagman_ok _ (by omega) he9) ?_
    by_cases h10 : r7 = 0
    · rw [if_pos h10] at hs
      refine Rc.goL mt_1022 0 (f2 := (if r7 = 0 then 26 else 22, [.ref 179, .int x1], [], gm M8)) (b := true) rfl rfl ?_
      rw [if_pos h10]
      refine Rc.goL mt_1022 0 (f2 := (27, [.ref 179, .int x1], [.int (0 : Int32)], gm M8)) (b := true) rfl rfl ?_
      obtain ⟨e1, e2⟩ := some_p hs; subst e1; subst e2
      exact Rc.ret (v := some (.int (0 : Int32))) rfl rfl
    · rw [if_neg h10] at hs
      refine Rc.goL mt_1022 0 (f2 := (if r7 = 0 then 26 else 22, [.ref 179, .int x1], [], gm M8)) (b := true) rfl rfl ?_
      rw [if_neg h10]
      refine Rc.goL mt_1022 1 (f2 := (27, [.ref 179, .int x1], [.int (1 : Int32)], gm M8)) (b := true) rfl rfl ?_
      obtain ⟨e1, e2⟩ := some_p hs; subst e1; subst e2
      exact Rc.ret (v := some (.int (1 : Int32))) rfl rfl
  · rw [if_neg h11] at hs
    refine Rc.goL mt_1022 0 (f2 := (if r1 = 0 then 10 else 8, [.ref 179, .int x1], [], gm M2)) (b := true) rfl rfl ?_
    rw [if_neg h11]
    refine Rc.goL mt_1022 0 (f2 := (9, [.ref 179, .int x1], [.int (2 : Int32)], gm M2)) (b := true) rfl rfl ?_
    obtain ⟨e1, e2⟩ := some_p hs; subst e1; subst e2
    exact Rc.ret (v := some (.int (2 : Int32))) rfl rfl
def qfr_master (x1 : Int32) (M : SM) : Option (Int32 × SM) :=
  jn (fun (x1_1 : Int32) (M2 : SM) =>
    ob (qtn_addMaster x1_1 M2) (fun r3 M4 =>
      some (r3, M4))) (fun j6 =>
  if x1 = (-1 : Int32) then
  (j6 x1 M) else
  (ob (qtn_isHouse x1 M) (fun r7 M8 =>
    if r7 = 0 then
    (some ((-1 : Int32), M8)) else
    (j6 x1 M8))))
theorem mt_1101 : MT 1101 K_1101 LN_11 := ⟨rfl, rfl, by decide +kernel⟩
theorem okm_1101 : OKm 1101 := ⟨⟨vE_1101, okL_11, by decide +kernel⟩, by decide +kernel, by decide +kernel, by decide +kernel⟩
set_option maxRecDepth 20000 in
theorem qfr_master_ok (d : Nat) (hd : 3 ≤ d) {x1 : Int32} {M : SM} {r : Int32} {Mz : SM} (hs : qfr_master x1 M = some (r, Mz)) : Ex d 1101 [.ref 0, .int x1] (gm M) (some (.int r), gm Mz) := by
  obtain ⟨d, rfl⟩ : ∃ d0, d = d0 + 1 := ⟨d - 1, by omega⟩
  refine Ex.of okm_1101 (by omega) (Nat.le_of_ble_eq_true rfl) ?_
  show Rc (d + 1) 1101 (0, [.ref 0, .int x1], [], gm M) _
  unfold qfr_master at hs
  refine jn_e (P := fun (j : Int32 → SM → Option (Int32 × SM)) => ∀ (x1_1 : Int32) (M2 : SM) (r : Int32) (Mz : SM), j x1_1 M2 = some (r, Mz) → Rc (d + 1) 1101 (18, [.ref 0, .int x1_1], [], gm M2) (some (.int r), gm Mz)) hs ?_ (fun j6 Hj6 hs => ?_)
  · intro x1_1 M2 r Mz hs
    try dsimp only at hs
    refine Rc.goL mt_1101 2 (f2 := (23, [.ref 0, .int x1_1], [.int x1_1, .ref 179], gm M2)) (b := true) rfl rfl ?_
    obtain ⟨r3, M4, he5, hs⟩ := ob_some hs
    refine Rc.callV (i := 92) (mid' := 1009) (av := [.int x1_1]) (rest := []) (v := some (.int r3)) (M1 := gm M4) (a := 179) rfl rfl rfl cw_1009 rfl (Nat.le_of_ble_eq_true rfl) rfl (Nat.le_of_ble_eq_true rfl) (qtn_addMaster_ok _ (by omega) he5) ?_
    obtain ⟨e1, e2⟩ := some_p hs; subst e1; subst e2
    exact Rc.ret (v := some (.int r3)) rfl rfl
  by_cases h11 : x1 = (-1 : Int32)
  · rw [if_pos h11] at hs
    refine Rc.goL mt_1101 2 (f2 := (if x1 = (-1 : Int32) then 18 else 5, [.ref 0, .int x1], [], gm M)) (b := true) rfl rfl ?_
    rw [if_pos h11]
    refine Rc.less (ls2 := [.ref 0, .int x1]) (by refine ⟨Or.inr rfl, Or.inr rfl, trivial⟩) ?_
    exact Hj6 x1 _ _ _ hs
  · rw [if_neg h11] at hs
    refine Rc.goL mt_1101 2 (f2 := (if x1 = (-1 : Int32) then 18 else 5, [.ref 0, .int x1], [], gm M)) (b := true) rfl rfl ?_
    rw [if_neg h11]
    refine Rc.goL mt_1101 2 (f2 := (10, [.ref 0, .int x1], [.int x1, .ref 179], gm M)) (b := true) rfl rfl ?_
    obtain ⟨r7, M8, he9, hs⟩ := ob_some hs
    refine Rc.callV (i := 88) (mid' := 1005) (av := [.int x1]) (rest := []) (v := some (.int r7)) (M1 := gm M8) (a := 179) rfl rfl rfl cw_1005 rfl (Nat.le_of_ble_eq_true rfl) rfl (Nat.le_of_ble_eq_true rfl) (qtn_isHouse_ok _ (by omega) he9) ?_
    by_cases h10 : r7 = 0
    · rw [if_pos h10] at hs
      refine Rc.goL mt_1101 0 (f2 := (if r7 = 0 then 16 else 18, [.ref 0, .int x1], [], gm M8)) (b := true) rfl rfl ?_
      rw [if_pos h10]
      refine Rc.goL mt_1101 0 (f2 := (17, [.ref 0, .int x1], [.int (-1 : Int32)], gm M8)) (b := true) rfl rfl ?_
      obtain ⟨e1, e2⟩ := some_p hs; subst e1; subst e2
      exact Rc.ret (v := some (.int (-1 : Int32))) rfl rfl
    · rw [if_neg h10] at hs
      refine Rc.goL mt_1101 0 (f2 := (if r7 = 0 then 16 else 18, [.ref 0, .int x1], [], gm M8)) (b := true) rfl rfl ?_
      rw [if_neg h10]
      refine Rc.less (ls2 := [.ref 0, .int x1]) (by refine ⟨Or.inr rfl, Or.inr rfl, trivial⟩) ?_
      exact Hj6 x1 _ _ _ hs
def qfr_within (x0 : Int32) (x1 : Int32) (x2 : Int32) (M : SM) : Option (Int32 × SM) :=
  if x0 < x1 then
  (some ((0 : Int32), M)) else
  (if x2 < x0 then
    (some ((0 : Int32), M)) else
    (some ((1 : Int32), M)))
theorem mt_1137 : MT 1137 K_1137 LN_11 := ⟨rfl, rfl, by decide +kernel⟩
theorem okm_1137 : OKm 1137 := ⟨⟨vE_1137, okL_11, by decide +kernel⟩, by decide +kernel, by decide +kernel, by decide +kernel⟩
set_option maxRecDepth 20000 in
theorem qfr_within_ok (d : Nat) (hd : 1 ≤ d) {x0 : Int32} {x1 : Int32} {x2 : Int32} {M : SM} {r : Int32} {Mz : SM} (hs : qfr_within x0 x1 x2 M = some (r, Mz)) : Ex d 1137 [.int x0, .int x1, .int x2] (gm M) (some (.int r), gm Mz) := by
  obtain ⟨d, rfl⟩ : ∃ d0, d = d0 + 1 := ⟨d - 1, by omega⟩
  refine Ex.of okm_1137 (by omega) (Nat.le_of_ble_eq_true rfl) ?_
  show Rc (d + 1) 1137 (0, [.int x0, .int x1, .int x2], [], gm M) _
  unfold qfr_within at hs
  by_cases h2 : x0 < x1
  · rw [if_pos h2] at hs
    refine Rc.goL mt_1137 2 (f2 := (if x0 < x1 then 14 else 5, [.int x0, .int x1, .int x2], [], gm M)) (b := true) rfl rfl ?_
    rw [if_pos h2]
    refine Rc.goL mt_1137 0 (f2 := (15, [.int x0, .int x1, .int x2], [.int (0 : Int32)], gm M)) (b := true) rfl rfl ?_
    obtain ⟨e1, e2⟩ := some_p hs; subst e1; subst e2
    exact Rc.ret (v := some (.int (0 : Int32))) rfl rfl
  · rw [if_neg h2] at hs
    refine Rc.goL mt_1137 2 (f2 := (if x0 < x1 then 14 else 5, [.int x0, .int x1, .int x2], [], gm M)) (b := true) rfl rfl ?_
    rw [if_neg h2]
    by_cases h1 : x2 < x0
    · rw [if_pos h1] at hs
      refine Rc.goL mt_1137 2 (f2 := (if x2 < x0 then 14 else 10, [.int x0, .int x1, .int x2], [], gm M)) (b := true) rfl rfl ?_
      rw [if_pos h1]
      refine Rc.goL mt_1137 0 (f2 := (15, [.int x0, .int x1, .int x2], [.int (0 : Int32)], gm M)) (b := true) rfl rfl ?_
      obtain ⟨e1, e2⟩ := some_p hs; subst e1; subst e2
      exact Rc.ret (v := some (.int (0 : Int32))) rfl rfl
    · rw [if_neg h1] at hs
      refine Rc.goL mt_1137 2 (f2 := (if x2 < x0 then 14 else 10, [.int x0, .int x1, .int x2], [], gm M)) (b := true) rfl rfl ?_
      rw [if_neg h1]
      refine Rc.goL mt_1137 1 (f2 := (15, [.int x0, .int x1, .int x2], [.int (1 : Int32)], gm M)) (b := true) rfl rfl ?_
      obtain ⟨e1, e2⟩ := some_p hs; subst e1; subst e2
      exact Rc.ret (v := some (.int (1 : Int32))) rfl rfl
def qfr_knitter (x1 : Int32) (M : SM) : Option (Int32 × SM) :=
  ob (qfr_within x1 (1 : Int32) (9 : Int32) M) (fun r1 M2 =>
  if r1 = 0 then
  (some ((-1 : Int32), M2)) else
  (ob (qtn_addKnitter x1 M2) (fun r4 M5 =>
    some (r4, M5))))
theorem mt_1102 : MT 1102 K_1102 LN_11 := ⟨rfl, rfl, by decide +kernel⟩
theorem okm_1102 : OKm 1102 := ⟨⟨vE_1102, okL_11, by decide +kernel⟩, by decide +kernel, by decide +kernel, by decide +kernel⟩
set_option maxRecDepth 20000 in
theorem qfr_knitter_ok (d : Nat) (hd : 2 ≤ d) {x1 : Int32} {M : SM} {r : Int32} {Mz : SM} (hs : qfr_knitter x1 M = some (r, Mz)) : Ex d 1102 [.ref 0, .int x1] (gm M) (some (.int r), gm Mz) := by
  obtain ⟨d, rfl⟩ : ∃ d0, d = d0 + 1 := ⟨d - 1, by omega⟩
  refine Ex.of okm_1102 (by omega) (Nat.le_of_ble_eq_true rfl) ?_
  show Rc (d + 1) 1102 (0, [.ref 0, .int x1], [], gm M) _
  unfold qfr_knitter at hs
  refine Rc.goL mt_1102 2 (f2 := (4, [.ref 0, .int x1], [.int (9 : Int32), .int (1 : Int32), .int x1], gm M)) (b := true) rfl rfl ?_
  obtain ⟨r1, M2, he3, hs⟩ := ob_some hs
  refine Rc.callS (i := 96) (mid' := 1137) (av := [.int x1, .int (1 : Int32), .int (9 : Int32)]) (rest := []) (v := some (.int r1)) (M1 := gm M2) rfl (Or.inl rfl) rfl cw_1137 rfl (Nat.le_of_ble_eq_true rfl) (qfr_within_ok _ (by omega) he3) ?_
  by_cases h7 : r1 = 0
  · rw [if_pos h7] at hs
    refine Rc.goL mt_1102 0 (f2 := (if r1 = 0 then 10 else 12, [.ref 0, .int x1], [], gm M2)) (b := true) rfl rfl ?_
    rw [if_pos h7]
    refine Rc.goL mt_1102 0 (f2 := (11, [.ref 0, .int x1], [.int (-1 : Int32)], gm M2)) (b := true) rfl rfl ?_
    obtain ⟨e1, e2⟩ := some_p hs; subst e1; subst e2
    exact Rc.ret (v := some (.int (-1 : Int32))) rfl rfl
  · rw [if_neg h7] at hs
    refine Rc.goL mt_1102 0 (f2 := (if r1 = 0 then 10 else 12, [.ref 0, .int x1], [], gm M2)) (b := true) rfl rfl ?_
    rw [if_neg h7]
    refine Rc.goL mt_1102 2 (f2 := (17, [.ref 0, .int x1], [.int x1, .ref 179], gm M2)) (b := true) rfl rfl ?_
    obtain ⟨r4, M5, he6, hs⟩ := ob_some hs
    refine Rc.callV (i := 100) (mid' := 1010) (av := [.int x1]) (rest := []) (v := some (.int r4)) (M1 := gm M5) (a := 179) rfl rfl rfl cw_1010 rfl (Nat.le_of_ble_eq_true rfl) rfl (Nat.le_of_ble_eq_true rfl) (qtn_addKnitter_ok _ (by omega) he6) ?_
    obtain ⟨e1, e2⟩ := some_p hs; subst e1; subst e2
    exact Rc.ret (v := some (.int r4)) rfl rfl
def qfr_frame (x1 : Int32) (x2 : Int32) (x3 : Int32) (M : SM) : Option (Int32 × SM) :=
  ob (qfr_within x1 (10 : Int32) (40 : Int32) M) (fun r1 M2 =>
  if r1 = 0 then
  (some ((-1 : Int32), M2)) else
  (ob (qtn_hasMaster x2 M2) (fun r4 M5 =>
    if r4 = 0 then
    (some ((-1 : Int32), M5)) else
    (jn (fun (x1_7 : Int32) (x2_8 : Int32) (x3_9 : Int32) (M10 : SM) =>
        ob (qtn_addFrame x1_7 x2_8 x3_9 M10) (fun r11 M12 =>
          some (r11, M12))) (fun j14 =>
      if x3 = (-1 : Int32) then
      (j14 x1 x2 x3 M5) else
      (ob (qtn_hasKnitter x3 M5) (fun r15 M16 =>
        if r15 = 0 then
        (some ((-1 : Int32), M16)) else
        (j14 x1 x2 x3 M16))))))))
theorem mt_1103 : MT 1103 K_1103 LN_11 := ⟨rfl, rfl, by decide +kernel⟩
theorem okm_1103 : OKm 1103 := ⟨⟨vE_1103, okL_11, by decide +kernel⟩, by decide +kernel, by decide +kernel, by decide +kernel⟩
set_option maxRecDepth 20000 in
theorem qfr_frame_ok (d : Nat) (hd : 3 ≤ d) {x1 : Int32} {x2 : Int32} {x3 : Int32} {M : SM} {r : Int32} {Mz : SM} (hs : qfr_frame x1 x2 x3 M = some (r, Mz)) : Ex d 1103 [.ref 0, .int x1, .int x2, .int x3] (gm M) (some (.int r), gm Mz) := by
  obtain ⟨d, rfl⟩ : ∃ d0, d = d0 + 1 := ⟨d - 1, by omega⟩
  refine Ex.of okm_1103 (by omega) (Nat.le_of_ble_eq_true rfl) ?_
  show Rc (d + 1) 1103 (0, [.ref 0, .int x1, .int x2, .int x3], [], gm M) _
  unfold qfr_frame at hs
  refine Rc.goL mt_1103 2 (f2 := (5, [.ref 0, .int x1, .int x2, .int x3], [.int (40 : Int32), .int (10 : Int32), .int x1], gm M)) (b := true) rfl rfl ?_
  obtain ⟨r1, M2, he3, hs⟩ := ob_some hs
  refine Rc.callS (i := 96) (mid' := 1137) (av := [.int x1, .int (10 : Int32), .int (40 : Int32)]) (rest := []) (v := some (.int r1)) (M1 := gm M2) rfl (Or.inl rfl) rfl cw_1137 rfl (Nat.le_of_ble_eq_true rfl) (qfr_within_ok _ (by omega) he3) ?_
  by_cases h21 : r1 = 0
  · rw [if_pos h21] at hs
    refine Rc.goL mt_1103 0 (f2 := (if r1 = 0 then 22 else 11, [.ref 0, .int x1, .int x2, .int x3], [], gm M2)) (b := true) rfl rfl ?_
    rw [if_pos h21]
    refine Rc.goL mt_1103 0 (f2 := (23, [.ref 0, .int x1, .int x2, .int x3], [.int (-1 : Int32)], gm M2)) (b := true) rfl rfl ?_
    obtain ⟨e1, e2⟩ := some_p hs; subst e1; subst e2
    exact Rc.ret (v := some (.int (-1 : Int32))) rfl rfl
  · rw [if_neg h21] at hs
    refine Rc.goL mt_1103 0 (f2 := (if r1 = 0 then 22 else 11, [.ref 0, .int x1, .int x2, .int x3], [], gm M2)) (b := true) rfl rfl ?_
    rw [if_neg h21]
    refine Rc.goL mt_1103 2 (f2 := (16, [.ref 0, .int x1, .int x2, .int x3], [.int x2, .ref 179], gm M2)) (b := true) rfl rfl ?_
    obtain ⟨r4, M5, he6, hs⟩ := ob_some hs
    refine Rc.callV (i := 103) (mid' := 1002) (av := [.int x2]) (rest := []) (v := some (.int r4)) (M1 := gm M5) (a := 179) rfl rfl rfl cw_1002 rfl (Nat.le_of_ble_eq_true rfl) rfl (Nat.le_of_ble_eq_true rfl) (qtn_hasMaster_ok _ (by omega) he6) ?_
    by_cases h20 : r4 = 0
    · rw [if_pos h20] at hs
      refine Rc.goL mt_1103 0 (f2 := (if r4 = 0 then 22 else 24, [.ref 0, .int x1, .int x2, .int x3], [], gm M5)) (b := true) rfl rfl ?_
      rw [if_pos h20]
      refine Rc.goL mt_1103 0 (f2 := (23, [.ref 0, .int x1, .int x2, .int x3], [.int (-1 : Int32)], gm M5)) (b := true) rfl rfl ?_
      obtain ⟨e1, e2⟩ := some_p hs; subst e1; subst e2
      exact Rc.ret (v := some (.int (-1 : Int32))) rfl rfl
    · rw [if_neg h20] at hs
      refine Rc.goL mt_1103 0 (f2 := (if r4 = 0 then 22 else 24, [.ref 0, .int x1, .int x2, .int x3], [], gm M5)) (b := true) rfl rfl ?_
      rw [if_neg h20]
      refine jn_e (P := fun (j : Int32 → Int32 → Int32 → SM → Option (Int32 × SM)) => ∀ (x1_7 : Int32) (x2_8 : Int32) (x3_9 : Int32) (M10 : SM) (r : Int32) (Mz : SM), j x1_7 x2_8 x3_9 M10 = some (r, Mz) → Rc (d + 1) 1103 (42, [.ref 0, .int x1_7, .int x2_8, .int x3_9], [], gm M10) (some (.int r), gm Mz)) hs ?_ (fun j14 Hj14 hs => ?_)
      · intro x1_7 x2_8 x3_9 M10 r Mz hs
        try dsimp only at hs
        refine Rc.goL mt_1103 4 (f2 := (49, [.ref 0, .int x1_7, .int x2_8, .int x3_9], [.int x3_9, .int x2_8, .int x1_7, .ref 179], gm M10)) (b := true) rfl rfl ?_
        obtain ⟨r11, M12, he13, hs⟩ := ob_some hs
        refine Rc.callV (i := 109) (mid' := 1011) (av := [.int x1_7, .int x2_8, .int x3_9]) (rest := []) (v := some (.int r11)) (M1 := gm M12) (a := 179) rfl rfl rfl cw_1011 rfl (Nat.le_of_ble_eq_true rfl) rfl (Nat.le_of_ble_eq_true rfl) (qtn_addFrame_ok _ (by omega) he13) ?_
        obtain ⟨e1, e2⟩ := some_p hs; subst e1; subst e2
        exact Rc.ret (v := some (.int r11)) rfl rfl
      by_cases h19 : x3 = (-1 : Int32)
      · rw [if_pos h19] at hs
        refine Rc.goL mt_1103 2 (f2 := (if x3 = (-1 : Int32) then 42 else 29, [.ref 0, .int x1, .int x2, .int x3], [], gm M5)) (b := true) rfl rfl ?_
        rw [if_pos h19]
        refine Rc.less (ls2 := [.ref 0, .int x1, .int x2, .int x3]) (by refine ⟨Or.inr rfl, Or.inr rfl, Or.inr rfl, Or.inr rfl, trivial⟩) ?_
        exact Hj14 x1 x2 x3 _ _ _ hs
      · rw [if_neg h19] at hs
        refine Rc.goL mt_1103 2 (f2 := (if x3 = (-1 : Int32) then 42 else 29, [.ref 0, .int x1, .int x2, .int x3], [], gm M5)) (b := true) rfl rfl ?_
        rw [if_neg h19]
        refine Rc.goL mt_1103 2 (f2 := (34, [.ref 0, .int x1, .int x2, .int x3], [.int x3, .ref 179], gm M5)) (b := true) rfl rfl ?_
        obtain ⟨r15, M16, he17, hs⟩ := ob_some hs
        refine Rc.callV (i := 106) (mid' := 1003) (av := [.int x3]) (rest := []) (v := some (.int r15)) (M1 := gm M16) (a := 179) rfl rfl rfl cw_1003 rfl (Nat.le_of_ble_eq_true rfl) rfl (Nat.le_of_ble_eq_true rfl) (qtn_hasKnitter_ok _ (by omega) he17) ?_
        by_cases h18 : r15 = 0
        · rw [if_pos h18] at hs
          refine Rc.goL mt_1103 0 (f2 := (if r15 = 0 then 40 else 42, [.ref 0, .int x1, .int x2, .int x3], [], gm M16)) (b := true) rfl rfl ?_
          rw [if_pos h18]
          refine Rc.goL mt_1103 0 (f2 := (41, [.ref 0, .int x1, .int x2, .int x3], [.int (-1 : Int32)], gm M16)) (b := true) rfl rfl ?_
          obtain ⟨e1, e2⟩ := some_p hs; subst e1; subst e2
          exact Rc.ret (v := some (.int (-1 : Int32))) rfl rfl
        · rw [if_neg h18] at hs
          refine Rc.goL mt_1103 0 (f2 := (if r15 = 0 then 40 else 42, [.ref 0, .int x1, .int x2, .int x3], [], gm M16)) (b := true) rfl rfl ?_
          rw [if_neg h18]
          refine Rc.less (ls2 := [.ref 0, .int x1, .int x2, .int x3]) (by refine ⟨Or.inr rfl, Or.inr rfl, Or.inr rfl, Or.inr rfl, trivial⟩) ?_
          exact Hj14 x1 x2 x3 _ _ _ hs
def qfr_hire (x1 : Int32) (x2 : Int32) (M : SM) : Option (Int32 × SM) :=
  ob (qtn_isForHire x1 M) (fun r1 M2 =>
  if r1 = 0 then
  (some ((0 : Int32), M2)) else
  (ob (qtn_hasKnitter x2 M2) (fun r4 M5 =>
    if r4 = 0 then
    (some ((0 : Int32), M5)) else
    (ob (qtn_holderAt x1 (M5.1 179 0) M5) (fun r7 M8 =>
      if r7 = (-1 : Int32) then
      (ob (qtn_holdFromNow x1 x2 M8) (fun _ M10 =>
        some ((1 : Int32), M10))) else
      (some ((0 : Int32), M8)))))))
theorem mt_1104 : MT 1104 K_1104 LN_11 := ⟨rfl, rfl, by decide +kernel⟩
theorem okm_1104 : OKm 1104 := ⟨⟨vE_1104, okL_11, by decide +kernel⟩, by decide +kernel, by decide +kernel, by decide +kernel⟩
set_option maxRecDepth 20000 in
theorem qfr_hire_ok (d : Nat) (hd : 3 ≤ d) {x1 : Int32} {x2 : Int32} {M : SM} {r : Int32} {Mz : SM} (hs : qfr_hire x1 x2 M = some (r, Mz)) : Ex d 1104 [.ref 0, .int x1, .int x2] (gm M) (some (.int r), gm Mz) := by
  obtain ⟨d, rfl⟩ : ∃ d0, d = d0 + 1 := ⟨d - 1, by omega⟩
  refine Ex.of okm_1104 (by omega) (Nat.le_of_ble_eq_true rfl) ?_
  show Rc (d + 1) 1104 (0, [.ref 0, .int x1, .int x2], [], gm M) _
  unfold qfr_hire at hs
  refine Rc.goL mt_1104 2 (f2 := (5, [.ref 0, .int x1, .int x2], [.int x1, .ref 179], gm M)) (b := true) rfl rfl ?_
  obtain ⟨r1, M2, he3, hs⟩ := ob_some hs
  refine Rc.callV (i := 113) (mid' := 1008) (av := [.int x1]) (rest := []) (v := some (.int r1)) (M1 := gm M2) (a := 179) rfl rfl rfl cw_1008 rfl (Nat.le_of_ble_eq_true rfl) rfl (Nat.le_of_ble_eq_true rfl) (qtn_isForHire_ok _ (by omega) he3) ?_
  by_cases h15 : r1 = 0
  · rw [if_pos h15] at hs
    refine Rc.goL mt_1104 0 (f2 := (if r1 = 0 then 22 else 11, [.ref 0, .int x1, .int x2], [], gm M2)) (b := true) rfl rfl ?_
    rw [if_pos h15]
    refine Rc.goL mt_1104 0 (f2 := (23, [.ref 0, .int x1, .int x2], [.int (0 : Int32)], gm M2)) (b := true) rfl rfl ?_
    obtain ⟨e1, e2⟩ := some_p hs; subst e1; subst e2
    exact Rc.ret (v := some (.int (0 : Int32))) rfl rfl
  · rw [if_neg h15] at hs
    refine Rc.goL mt_1104 0 (f2 := (if r1 = 0 then 22 else 11, [.ref 0, .int x1, .int x2], [], gm M2)) (b := true) rfl rfl ?_
    rw [if_neg h15]
    refine Rc.goL mt_1104 2 (f2 := (16, [.ref 0, .int x1, .int x2], [.int x2, .ref 179], gm M2)) (b := true) rfl rfl ?_
    obtain ⟨r4, M5, he6, hs⟩ := ob_some hs
    refine Rc.callV (i := 106) (mid' := 1003) (av := [.int x2]) (rest := []) (v := some (.int r4)) (M1 := gm M5) (a := 179) rfl rfl rfl cw_1003 rfl (Nat.le_of_ble_eq_true rfl) rfl (Nat.le_of_ble_eq_true rfl) (qtn_hasKnitter_ok _ (by omega) he6) ?_
    by_cases h14 : r4 = 0
    · rw [if_pos h14] at hs
      refine Rc.goL mt_1104 0 (f2 := (if r4 = 0 then 22 else 24, [.ref 0, .int x1, .int x2], [], gm M5)) (b := true) rfl rfl ?_
      rw [if_pos h14]
      refine Rc.goL mt_1104 0 (f2 := (23, [.ref 0, .int x1, .int x2], [.int (0 : Int32)], gm M5)) (b := true) rfl rfl ?_
      obtain ⟨e1, e2⟩ := some_p hs; subst e1; subst e2
      exact Rc.ret (v := some (.int (0 : Int32))) rfl rfl
    · rw [if_neg h14] at hs
      refine Rc.goL mt_1104 0 (f2 := (if r4 = 0 then 22 else 24, [.ref 0, .int x1, .int x2], [], gm M5)) (b := true) rfl rfl ?_
      rw [if_neg h14]
      refine Rc.goL mt_1104 5 (f2 := (36, [.ref 0, .int x1, .int x2], [.int (M5.1 179 0), .int x1, .ref 179], gm M5)) (b := true) rfl rfl ?_
      obtain ⟨r7, M8, he9, hs⟩ := ob_some hs
      refine Rc.callV (i := 119) (mid' := 1014) (av := [.int x1, .int (M5.1 179 0)]) (rest := []) (v := some (.int r7)) (M1 := gm M8) (a := 179) rfl rfl rfl cw_1014 rfl (Nat.le_of_ble_eq_true rfl) rfl (Nat.le_of_ble_eq_true rfl) (qtn_holderAt_ok _ (by omega) he9) ?_
      by_cases h13 : r7 = (-1 : Int32)
      · rw [if_pos h13] at hs
        refine Rc.goL mt_1104 1 (f2 := (if r7 = (-1 : Int32) then 45 else 43, [.ref 0, .int x1, .int x2], [], gm M8)) (b := true) rfl rfl ?_
        rw [if_pos h13]
        refine Rc.goL mt_1104 3 (f2 := (51, [.ref 0, .int x1, .int x2], [.int x2, .int x1, .ref 179], gm M8)) (b := true) rfl rfl ?_
        obtain ⟨u12, M10, he11, hs⟩ := ob_some hs
        refine Rc.callV (i := 123) (mid' := 1012) (av := [.int x1, .int x2]) (rest := []) (v := none) (M1 := gm M10) (a := 179) rfl rfl rfl cw_1012 rfl (Nat.le_of_ble_eq_true rfl) rfl (Nat.le_of_ble_eq_true rfl) (qtn_holdFromNow_ok _ (by omega) he11) ?_
        refine Rc.goL mt_1104 0 (f2 := (55, [.ref 0, .int x1, .int x2], [.int (1 : Int32)], gm M10)) (b := true) rfl rfl ?_
        obtain ⟨e1, e2⟩ := some_p hs; subst e1; subst e2
        exact Rc.ret (v := some (.int (1 : Int32))) rfl rfl
      · rw [if_neg h13] at hs
        refine Rc.goL mt_1104 1 (f2 := (if r7 = (-1 : Int32) then 45 else 43, [.ref 0, .int x1, .int x2], [], gm M8)) (b := true) rfl rfl ?_
        rw [if_neg h13]
        refine Rc.goL mt_1104 0 (f2 := (44, [.ref 0, .int x1, .int x2], [.int (0 : Int32)], gm M8)) (b := true) rfl rfl ?_
        obtain ⟨e1, e2⟩ := some_p hs; subst e1; subst e2
        exact Rc.ret (v := some (.int (0 : Int32))) rfl rfl
def qfr_back (x1 : Int32) (M : SM) : Option (Int32 × SM) :=
  ob (qtn_isForHire x1 M) (fun r1 M2 =>
  if r1 = 0 then
  (some ((0 : Int32), M2)) else
  (ob (qtn_holderAt x1 (M2.1 179 0) M2) (fun r4 M5 =>
    if r4 = (-1 : Int32) then
    (some ((0 : Int32), M5)) else
    (ob (qtn_holdFromNow x1 (-1 : Int32) M5) (fun _ M7 =>
      some ((1 : Int32), M7))))))
theorem mt_1105 : MT 1105 K_1105 LN_11 := ⟨rfl, rfl, by decide +kernel⟩
theorem okm_1105 : OKm 1105 := ⟨⟨vE_1105, okL_11, by decide +kernel⟩, by decide +kernel, by decide +kernel, by decide +kernel⟩
set_option maxRecDepth 20000 in
theorem qfr_back_ok (d : Nat) (hd : 3 ≤ d) {x1 : Int32} {M : SM} {r : Int32} {Mz : SM} (hs : qfr_back x1 M = some (r, Mz)) : Ex d 1105 [.ref 0, .int x1] (gm M) (some (.int r), gm Mz) := by
  obtain ⟨d, rfl⟩ : ∃ d0, d = d0 + 1 := ⟨d - 1, by omega⟩
  refine Ex.of okm_1105 (by omega) (Nat.le_of_ble_eq_true rfl) ?_
  show Rc (d + 1) 1105 (0, [.ref 0, .int x1], [], gm M) _
  unfold qfr_back at hs
  refine Rc.goL mt_1105 2 (f2 := (5, [.ref 0, .int x1], [.int x1, .ref 179], gm M)) (b := true) rfl rfl ?_
  obtain ⟨r1, M2, he3, hs⟩ := ob_some hs
  refine Rc.callV (i := 113) (mid' := 1008) (av := [.int x1]) (rest := []) (v := some (.int r1)) (M1 := gm M2) (a := 179) rfl rfl rfl cw_1008 rfl (Nat.le_of_ble_eq_true rfl) rfl (Nat.le_of_ble_eq_true rfl) (qtn_isForHire_ok _ (by omega) he3) ?_
  by_cases h11 : r1 = 0
  · rw [if_pos h11] at hs
    refine Rc.goL mt_1105 0 (f2 := (if r1 = 0 then 30 else 11, [.ref 0, .int x1], [], gm M2)) (b := true) rfl rfl ?_
    rw [if_pos h11]
    refine Rc.goL mt_1105 0 (f2 := (31, [.ref 0, .int x1], [.int (0 : Int32)], gm M2)) (b := true) rfl rfl ?_
    obtain ⟨e1, e2⟩ := some_p hs; subst e1; subst e2
    exact Rc.ret (v := some (.int (0 : Int32))) rfl rfl
  · rw [if_neg h11] at hs
    refine Rc.goL mt_1105 0 (f2 := (if r1 = 0 then 30 else 11, [.ref 0, .int x1], [], gm M2)) (b := true) rfl rfl ?_
    rw [if_neg h11]
    refine Rc.goL mt_1105 5 (f2 := (23, [.ref 0, .int x1], [.int (M2.1 179 0), .int x1, .ref 179], gm M2)) (b := true) rfl rfl ?_
    obtain ⟨r4, M5, he6, hs⟩ := ob_some hs
    refine Rc.callV (i := 119) (mid' := 1014) (av := [.int x1, .int (M2.1 179 0)]) (rest := []) (v := some (.int r4)) (M1 := gm M5) (a := 179) rfl rfl rfl cw_1014 rfl (Nat.le_of_ble_eq_true rfl) rfl (Nat.le_of_ble_eq_true rfl) (qtn_holderAt_ok _ (by omega) he6) ?_
    by_cases h10 : r4 = (-1 : Int32)
    · rw [if_pos h10] at hs
      refine Rc.goL mt_1105 1 (f2 := (if r4 = (-1 : Int32) then 30 else 32, [.ref 0, .int x1], [], gm M5)) (b := true) rfl rfl ?_
      rw [if_pos h10]
      refine Rc.goL mt_1105 0 (f2 := (31, [.ref 0, .int x1], [.int (0 : Int32)], gm M5)) (b := true) rfl rfl ?_
      obtain ⟨e1, e2⟩ := some_p hs; subst e1; subst e2
      exact Rc.ret (v := some (.int (0 : Int32))) rfl rfl
    · rw [if_neg h10] at hs
      refine Rc.goL mt_1105 1 (f2 := (if r4 = (-1 : Int32) then 30 else 32, [.ref 0, .int x1], [], gm M5)) (b := true) rfl rfl ?_
      rw [if_neg h10]
      refine Rc.goL mt_1105 3 (f2 := (38, [.ref 0, .int x1], [.int (-1 : Int32), .int x1, .ref 179], gm M5)) (b := true) rfl rfl ?_
      obtain ⟨u9, M7, he8, hs⟩ := ob_some hs
      refine Rc.callV (i := 123) (mid' := 1012) (av := [.int x1, .int (-1 : Int32)]) (rest := []) (v := none) (M1 := gm M7) (a := 179) rfl rfl rfl cw_1012 rfl (Nat.le_of_ble_eq_true rfl) rfl (Nat.le_of_ble_eq_true rfl) (qtn_holdFromNow_ok _ (by omega) he8) ?_
      refine Rc.goL mt_1105 0 (f2 := (42, [.ref 0, .int x1], [.int (1 : Int32)], gm M7)) (b := true) rfl rfl ?_
      obtain ⟨e1, e2⟩ := some_p hs; subst e1; subst e2
      exact Rc.ret (v := some (.int (1 : Int32))) rfl rfl
def qfr_feed (x1 : Int32) (x2 : Int32) (x3 : Int32) (x4 : Int32) (x5 : Int32) (M : SM) : Option (Int32 × SM) :=
  ob (qtp_hasRoomFor (20 : Int32) M) (fun r1 M2 =>
  if r1 = 0 then
  (some ((-1 : Int32), M2)) else
  (ob (qtp_putInt x1 M2) (fun _ M4 =>
    ob (qtp_putInt x2 M4) (fun _ M7 =>
    ob (qtp_putInt x3 M7) (fun _ M10 =>
    ob (qtp_putInt x4 M10) (fun _ M13 =>
    ob (qtp_putInt x5 M13) (fun _ M16 =>
    some ((M16.1 1 1), M16))))))))
theorem mt_1106 : MT 1106 K_1106 LN_11 := ⟨rfl, rfl, by decide +kernel⟩
theorem okm_1106 : OKm 1106 := ⟨⟨vE_1106, okL_11, by decide +kernel⟩, by decide +kernel, by decide +kernel, by decide +kernel⟩
set_option maxRecDepth 20000 in
theorem qfr_feed_ok (d : Nat) (hd : 3 ≤ d) {x1 : Int32} {x2 : Int32} {x3 : Int32} {x4 : Int32} {x5 : Int32} {M : SM} {r : Int32} {Mz : SM} (hs : qfr_feed x1 x2 x3 x4 x5 M = some (r, Mz)) : Ex d 1106 [.ref 0, .int x1, .int x2, .int x3, .int x4, .int x5] (gm M) (some (.int r), gm Mz) := by
  obtain ⟨d, rfl⟩ : ∃ d0, d = d0 + 1 := ⟨d - 1, by omega⟩
  refine Ex.of okm_1106 (by omega) (Nat.le_of_ble_eq_true rfl) ?_
  show Rc (d + 1) 1106 (0, [.ref 0, .int x1, .int x2, .int x3, .int x4, .int x5], [], gm M) _
  unfold qfr_feed at hs
  refine Rc.goL mt_1106 2 (f2 := (6, [.ref 0, .int x1, .int x2, .int x3, .int x4, .int x5], [.int (20 : Int32), .ref 1], gm M)) (b := true) rfl rfl ?_
  obtain ⟨r1, M2, he3, hs⟩ := ob_some hs
  refine Rc.callV (i := 127) (mid' := 901) (av := [.int (20 : Int32)]) (rest := []) (v := some (.int r1)) (M1 := gm M2) (a := 1) rfl rfl rfl cw_901 rfl (Nat.le_of_ble_eq_true rfl) rfl (Nat.le_of_ble_eq_true rfl) (qtp_hasRoomFor_ok _ (by omega) he3) ?_
  by_cases h19 : r1 = 0
  · rw [if_pos h19] at hs
    refine Rc.goL mt_1106 0 (f2 := (if r1 = 0 then 12 else 14, [.ref 0, .int x1, .int x2, .int x3, .int x4, .int x5], [], gm M2)) (b := true) rfl rfl ?_
    rw [if_pos h19]
    refine Rc.goL mt_1106 0 (f2 := (13, [.ref 0, .int x1, .int x2, .int x3, .int x4, .int x5], [.int (-1 : Int32)], gm M2)) (b := true) rfl rfl ?_
    obtain ⟨e1, e2⟩ := some_p hs; subst e1; subst e2
    exact Rc.ret (v := some (.int (-1 : Int32))) rfl rfl
  · rw [if_neg h19] at hs
    refine Rc.goL mt_1106 0 (f2 := (if r1 = 0 then 12 else 14, [.ref 0, .int x1, .int x2, .int x3, .int x4, .int x5], [], gm M2)) (b := true) rfl rfl ?_
    rw [if_neg h19]
    refine Rc.goL mt_1106 2 (f2 := (19, [.ref 0, .int x1, .int x2, .int x3, .int x4, .int x5], [.int x1, .ref 1], gm M2)) (b := true) rfl rfl ?_
    obtain ⟨u6, M4, he5, hs⟩ := ob_some hs
    refine Rc.callV (i := 130) (mid' := 902) (av := [.int x1]) (rest := []) (v := none) (M1 := gm M4) (a := 1) rfl rfl rfl cw_902 rfl (Nat.le_of_ble_eq_true rfl) rfl (Nat.le_of_ble_eq_true rfl) (qtp_putInt_ok _ (by omega) he5) ?_
    refine Rc.goL mt_1106 2 (f2 := (27, [.ref 0, .int x1, .int x2, .int x3, .int x4, .int x5], [.int x2, .ref 1], gm M4)) (b := true) rfl rfl ?_
    obtain ⟨u9, M7, he8, hs⟩ := ob_some hs
    refine Rc.callV (i := 130) (mid' := 902) (av := [.int x2]) (rest := []) (v := none) (M1 := gm M7) (a := 1) rfl rfl rfl cw_902 rfl (Nat.le_of_ble_eq_true rfl) rfl (Nat.le_of_ble_eq_true rfl) (qtp_putInt_ok _ (by omega) he8) ?_
    refine Rc.goL mt_1106 2 (f2 := (35, [.ref 0, .int x1, .int x2, .int x3, .int x4, .int x5], [.int x3, .ref 1], gm M7)) (b := true) rfl rfl ?_
    obtain ⟨u12, M10, he11, hs⟩ := ob_some hs
    refine Rc.callV (i := 130) (mid' := 902) (av := [.int x3]) (rest := []) (v := none) (M1 := gm M10) (a := 1) rfl rfl rfl cw_902 rfl (Nat.le_of_ble_eq_true rfl) rfl (Nat.le_of_ble_eq_true rfl) (qtp_putInt_ok _ (by omega) he11) ?_
    refine Rc.goL mt_1106 2 (f2 := (44, [.ref 0, .int x1, .int x2, .int x3, .int x4, .int x5], [.int x4, .ref 1], gm M10)) (b := true) rfl rfl ?_
    obtain ⟨u15, M13, he14, hs⟩ := ob_some hs
    refine Rc.callV (i := 130) (mid' := 902) (av := [.int x4]) (rest := []) (v := none) (M1 := gm M13) (a := 1) rfl rfl rfl cw_902 rfl (Nat.le_of_ble_eq_true rfl) rfl (Nat.le_of_ble_eq_true rfl) (qtp_putInt_ok _ (by omega) he14) ?_
    refine Rc.goL mt_1106 2 (f2 := (53, [.ref 0, .int x1, .int x2, .int x3, .int x4, .int x5], [.int x5, .ref 1], gm M13)) (b := true) rfl rfl ?_
    obtain ⟨u18, M16, he17, hs⟩ := ob_some hs
    refine Rc.callV (i := 130) (mid' := 902) (av := [.int x5]) (rest := []) (v := none) (M1 := gm M16) (a := 1) rfl rfl rfl cw_902 rfl (Nat.le_of_ble_eq_true rfl) rfl (Nat.le_of_ble_eq_true rfl) (qtp_putInt_ok _ (by omega) he17) ?_
    refine Rc.goL mt_1106 2 (f2 := (63, [.ref 0, .int x1, .int x2, .int x3, .int x4, .int x5], [.int (M16.1 1 1)], gm M16)) (b := true) rfl rfl ?_
    obtain ⟨e1, e2⟩ := some_p hs; subst e1; subst e2
    exact Rc.ret (v := some (.int (M16.1 1 1))) rfl rfl
def qfr_list (x1 : Int32) (M : SM) : Option (Int32 × SM) :=
  ob (qpr_nextList M) (fun r1 M2 =>
  om r1 (
  some ((-1 : Int32), M2)) (fun s4 =>
  ob (qfr_within x1 (1 : Int32) (200 : Int32) M2) (fun r5 M6 =>
    if r5 = 0 then
    (some ((-1 : Int32), M6)) else
    (if (M6.1 1 1) < x1 then
      (some ((-1 : Int32), M6)) else
      (ob (qrd_readList s4 x1 M6) (fun r8 M9 =>
        ob (qtp_wipe M9) (fun _ M11 =>
        if r8 = 0 then
        (ob (qpr_keepList M11) (fun r14 M15 =>
          some (r14, M15))) else
        (some (r8, M11)))))))))
theorem mt_1107 : MT 1107 K_1107 LN_11 := ⟨rfl, rfl, by decide +kernel⟩
theorem okm_1107 : OKm 1107 := ⟨⟨vE_1107, okL_11, by decide +kernel⟩, by decide +kernel, by decide +kernel, by decide +kernel⟩
set_option maxRecDepth 20000 in
theorem qfr_list_ok (d : Nat) (hd : 103 ≤ d) {x1 : Int32} {M : SM} {r : Int32} {Mz : SM} (hs : qfr_list x1 M = some (r, Mz)) : Ex d 1107 [.ref 0, .int x1] (gm M) (some (.int r), gm Mz) := by
  obtain ⟨d, rfl⟩ : ∃ d0, d = d0 + 1 := ⟨d - 1, by omega⟩
  refine Ex.of okm_1107 (by omega) (Nat.le_of_ble_eq_true rfl) ?_
  show Rc (d + 1) 1107 (0, [.ref 0, .int x1, UU, UU], [], gm M) _
  unfold qfr_list at hs
  refine Rc.goL mt_1107 1 (f2 := (4, [.ref 0, .int x1, UU, UU], [.ref 12], gm M)) (b := true) rfl rfl ?_
  obtain ⟨r1, M2, he3, hs⟩ := ob_some hs
  refine Rc.callV (i := 137) (mid' := 601) (av := []) (rest := []) (v := some (rv r1)) (M1 := gm M2) (a := 12) rfl rfl rfl cw_601 rfl (Nat.le_of_ble_eq_true rfl) rfl (Nat.le_of_ble_eq_true rfl) (qpr_nextList_ok _ (by omega) he3) ?_
  cases r1 with
  | none =>
    have hs := om_none hs
    refine Rc.goL mt_1107 2 (f2 := (34, [.ref 0, .int x1, .null, UU], [], gm M2)) (b := true) rfl rfl ?_
    refine Rc.goL mt_1107 0 (f2 := (35, [.ref 0, .int x1, .null, UU], [.int (-1 : Int32)], gm M2)) (b := true) rfl rfl ?_
    obtain ⟨e1, e2⟩ := some_p hs; subst e1; subst e2
    exact Rc.ret (v := some (.int (-1 : Int32))) rfl rfl
  | some s4 =>
    have hs := om_some hs
    refine Rc.goL mt_1107 2 (f2 := (12, [.ref 0, .int x1, .ref s4, UU], [], gm M2)) (b := true) rfl rfl ?_
    refine Rc.goL mt_1107 2 (f2 := (17, [.ref 0, .int x1, .ref s4, UU], [.int (200 : Int32), .int (1 : Int32), .int x1], gm M2)) (b := true) rfl rfl ?_
    obtain ⟨r5, M6, he7, hs⟩ := ob_some hs
    refine Rc.callS (i := 96) (mid' := 1137) (av := [.int x1, .int (1 : Int32), .int (200 : Int32)]) (rest := []) (v := some (.int r5)) (M1 := gm M6) rfl (Or.inl rfl) rfl cw_1137 rfl (Nat.le_of_ble_eq_true rfl) (qfr_within_ok _ (by omega) he7) ?_
    by_cases h19 : r5 = 0
    · rw [if_pos h19] at hs
      refine Rc.goL mt_1107 0 (f2 := (if r5 = 0 then 34 else 23, [.ref 0, .int x1, .ref s4, UU], [], gm M6)) (b := true) rfl rfl ?_
      rw [if_pos h19]
      refine Rc.goL mt_1107 0 (f2 := (35, [.ref 0, .int x1, .ref s4, UU], [.int (-1 : Int32)], gm M6)) (b := true) rfl rfl ?_
      obtain ⟨e1, e2⟩ := some_p hs; subst e1; subst e2
      exact Rc.ret (v := some (.int (-1 : Int32))) rfl rfl
    · rw [if_neg h19] at hs
      refine Rc.goL mt_1107 0 (f2 := (if r5 = 0 then 34 else 23, [.ref 0, .int x1, .ref s4, UU], [], gm M6)) (b := true) rfl rfl ?_
      rw [if_neg h19]
      by_cases h18 : (M6.1 1 1) < x1
      · rw [if_pos h18] at hs
        refine Rc.goL mt_1107 4 (f2 := (if (M6.1 1 1) < x1 then 34 else 36, [.ref 0, .int x1, .ref s4, UU], [], gm M6)) (b := true) rfl rfl ?_
        rw [if_pos h18]
        refine Rc.goL mt_1107 0 (f2 := (35, [.ref 0, .int x1, .ref s4, UU], [.int (-1 : Int32)], gm M6)) (b := true) rfl rfl ?_
        obtain ⟨e1, e2⟩ := some_p hs; subst e1; subst e2
        exact Rc.ret (v := some (.int (-1 : Int32))) rfl rfl
      · rw [if_neg h18] at hs
        refine Rc.goL mt_1107 4 (f2 := (if (M6.1 1 1) < x1 then 34 else 36, [.ref 0, .int x1, .ref s4, UU], [], gm M6)) (b := true) rfl rfl ?_
        rw [if_neg h18]
        refine Rc.goL mt_1107 3 (f2 := (42, [.ref 0, .int x1, .ref s4, UU], [.int x1, .ref s4, .ref 3], gm M6)) (b := true) rfl rfl ?_
        obtain ⟨r8, M9, he10, hs⟩ := ob_some hs
        refine Rc.callV (i := 141) (mid' := 701) (av := [.ref s4, .int x1]) (rest := []) (v := some (.int r8)) (M1 := gm M9) (a := 3) rfl rfl rfl cw_701 rfl (Nat.le_of_ble_eq_true rfl) rfl (Nat.le_of_ble_eq_true rfl) (qrd_readList_ok _ (by omega) he10) ?_
        refine Rc.goL mt_1107 2 (f2 := (50, [.ref 0, .int x1, .ref s4, .int r8], [.ref 1], gm M9)) (b := true) rfl rfl ?_
        obtain ⟨u13, M11, he12, hs⟩ := ob_some hs
        refine Rc.callV (i := 145) (mid' := 906) (av := []) (rest := []) (v := none) (M1 := gm M11) (a := 1) rfl rfl rfl cw_906 rfl (Nat.le_of_ble_eq_true rfl) rfl (Nat.le_of_ble_eq_true rfl) (qtp_wipe_ok _ (by omega) he12) ?_
        by_cases h17 : r8 = 0
        · rw [if_pos h17] at hs
          refine Rc.goL mt_1107 1 (f2 := (if r8 = 0 then 61 else 57, [.ref 0, .int x1, .ref s4, .int r8], [], gm M11)) (b := true) rfl rfl ?_
          rw [if_pos h17]
          refine Rc.goL mt_1107 1 (f2 := (65, [.ref 0, .int x1, .ref s4, .int r8], [.ref 12], gm M11)) (b := true) rfl rfl ?_
          obtain ⟨r14, M15, he16, hs⟩ := ob_some hs
          refine Rc.callV (i := 148) (mid' := 603) (av := []) (rest := []) (v := some (.int r14)) (M1 := gm M15) (a := 12) rfl rfl rfl cw_603 rfl (Nat.le_of_ble_eq_true rfl) rfl (Nat.le_of_ble_eq_true rfl) (qpr_keepList_ok _ (by omega) he16) ?_
          obtain ⟨e1, e2⟩ := some_p hs; subst e1; subst e2
          exact Rc.ret (v := some (.int r14)) rfl rfl
        · rw [if_neg h17] at hs
          refine Rc.goL mt_1107 1 (f2 := (if r8 = 0 then 61 else 57, [.ref 0, .int x1, .ref s4, .int r8], [], gm M11)) (b := true) rfl rfl ?_
          rw [if_neg h17]
          refine Rc.goL mt_1107 1 (f2 := (68, [.ref 0, .int x1, .ref s4, .int r8], [.int r8], gm M11)) (b := true) rfl rfl ?_
          obtain ⟨e1, e2⟩ := some_p hs; subst e1; subst e2
          exact Rc.ret (v := some (.int r8)) rfl rfl
def qfr_act (x1 : Int32) (x2 : Int32) (x3 : Int32) (M : SM) : Option (Int32 × SM) :=
  ob (qpr_nextAct M) (fun r1 M2 =>
  om r1 (
  some ((-1 : Int32), M2)) (fun s4 =>
  ob (qfr_within x3 (1 : Int32) (60 : Int32) M2) (fun r5 M6 =>
    if r5 = 0 then
    (some ((-1 : Int32), M6)) else
    (if (M6.1 1 1) < x3 then
      (some ((-1 : Int32), M6)) else
      (ob (qfr_isWeek x1 M6) (fun r8 M9 =>
        if r8 = 0 then
        (some ((-1 : Int32), M9)) else
        (ob (qfr_isWeek x2 M9) (fun r11 M12 =>
          if r11 = 0 then
          (some ((-1 : Int32), M12)) else
          (if x2 < x1 then
            (some ((-1 : Int32), M12)) else
            (ob (qrd_readAct s4 x3 M12) (fun r14 M15 =>
              ob (qtp_wipe M15) (fun _ M17 =>
              if r14 = 0 then
              (ck (kc 336 s4 8 && (kc 336 s4 8 && true)) (
                ob (qpr_keepAct (wI (wI M17 s4 9 x1) s4 10 x2)) (fun r21 M22 =>
                some (r21, M22)))) else
              (some (r14, M17))))))))))))))
theorem mt_1108 : MT 1108 K_1108 LN_11 := ⟨rfl, rfl, by decide +kernel⟩
theorem okm_1108 : OKm 1108 := ⟨⟨vE_1108, okL_11, by decide +kernel⟩, by decide +kernel, by decide +kernel, by decide +kernel⟩
set_option maxRecDepth 20000 in
theorem qfr_act_ok (d : Nat) (hd : 102 ≤ d) {x1 : Int32} {x2 : Int32} {x3 : Int32} {M : SM} {r : Int32} {Mz : SM} (hs : qfr_act x1 x2 x3 M = some (r, Mz)) : Ex d 1108 [.ref 0, .int x1, .int x2, .int x3] (gm M) (some (.int r), gm Mz) := by
  obtain ⟨d, rfl⟩ : ∃ d0, d = d0 + 1 := ⟨d - 1, by omega⟩
  refine Ex.of okm_1108 (by omega) (Nat.le_of_ble_eq_true rfl) ?_
  show Rc (d + 1) 1108 (0, [.ref 0, .int x1, .int x2, .int x3, UU, UU], [], gm M) _
  unfold qfr_act at hs
  refine Rc.goL mt_1108 1 (f2 := (4, [.ref 0, .int x1, .int x2, .int x3, UU, UU], [.ref 12], gm M)) (b := true) rfl rfl ?_
  obtain ⟨r1, M2, he3, hs⟩ := ob_some hs
  refine Rc.callV (i := 152) (mid' := 602) (av := []) (rest := []) (v := some (rv r1)) (M1 := gm M2) (a := 12) rfl rfl rfl cw_602 rfl (Nat.le_of_ble_eq_true rfl) rfl (Nat.le_of_ble_eq_true rfl) (qpr_nextAct_ok _ (by omega) he3) ?_
  cases r1 with
  | none =>
    have hs := om_none hs
    refine Rc.goL mt_1108 2 (f2 := (35, [.ref 0, .int x1, .int x2, .int x3, .null, UU], [], gm M2)) (b := true) rfl rfl ?_
    refine Rc.goL mt_1108 0 (f2 := (36, [.ref 0, .int x1, .int x2, .int x3, .null, UU], [.int (-1 : Int32)], gm M2)) (b := true) rfl rfl ?_
    obtain ⟨e1, e2⟩ := some_p hs; subst e1; subst e2
    exact Rc.ret (v := some (.int (-1 : Int32))) rfl rfl
  | some s4 =>
    have hs := om_some hs
    refine Rc.goL mt_1108 2 (f2 := (14, [.ref 0, .int x1, .int x2, .int x3, .ref s4, UU], [], gm M2)) (b := true) rfl rfl ?_
    refine Rc.goL mt_1108 2 (f2 := (18, [.ref 0, .int x1, .int x2, .int x3, .ref s4, UU], [.int (60 : Int32), .int (1 : Int32), .int x3], gm M2)) (b := true) rfl rfl ?_
    obtain ⟨r5, M6, he7, hs⟩ := ob_some hs
    refine Rc.callS (i := 96) (mid' := 1137) (av := [.int x3, .int (1 : Int32), .int (60 : Int32)]) (rest := []) (v := some (.int r5)) (M1 := gm M6) rfl (Or.inl rfl) rfl cw_1137 rfl (Nat.le_of_ble_eq_true rfl) (qfr_within_ok _ (by omega) he7) ?_
    by_cases h29 : r5 = 0
    · rw [if_pos h29] at hs
      refine Rc.goL mt_1108 0 (f2 := (if r5 = 0 then 35 else 24, [.ref 0, .int x1, .int x2, .int x3, .ref s4, UU], [], gm M6)) (b := true) rfl rfl ?_
      rw [if_pos h29]
      refine Rc.goL mt_1108 0 (f2 := (36, [.ref 0, .int x1, .int x2, .int x3, .ref s4, UU], [.int (-1 : Int32)], gm M6)) (b := true) rfl rfl ?_
      obtain ⟨e1, e2⟩ := some_p hs; subst e1; subst e2
      exact Rc.ret (v := some (.int (-1 : Int32))) rfl rfl
    · rw [if_neg h29] at hs
      refine Rc.goL mt_1108 0 (f2 := (if r5 = 0 then 35 else 24, [.ref 0, .int x1, .int x2, .int x3, .ref s4, UU], [], gm M6)) (b := true) rfl rfl ?_
      rw [if_neg h29]
      by_cases h28 : (M6.1 1 1) < x3
      · rw [if_pos h28] at hs
        refine Rc.goL mt_1108 4 (f2 := (if (M6.1 1 1) < x3 then 35 else 37, [.ref 0, .int x1, .int x2, .int x3, .ref s4, UU], [], gm M6)) (b := true) rfl rfl ?_
        rw [if_pos h28]
        refine Rc.goL mt_1108 0 (f2 := (36, [.ref 0, .int x1, .int x2, .int x3, .ref s4, UU], [.int (-1 : Int32)], gm M6)) (b := true) rfl rfl ?_
        obtain ⟨e1, e2⟩ := some_p hs; subst e1; subst e2
        exact Rc.ret (v := some (.int (-1 : Int32))) rfl rfl
      · rw [if_neg h28] at hs
        refine Rc.goL mt_1108 4 (f2 := (if (M6.1 1 1) < x3 then 35 else 37, [.ref 0, .int x1, .int x2, .int x3, .ref s4, UU], [], gm M6)) (b := true) rfl rfl ?_
        rw [if_neg h28]
        refine Rc.goL mt_1108 0 (f2 := (38, [.ref 0, .int x1, .int x2, .int x3, .ref s4, UU], [.int x1], gm M6)) (b := true) rfl rfl ?_
        obtain ⟨r8, M9, he10, hs⟩ := ob_some hs
        refine Rc.callS (i := 155) (mid' := 1138) (av := [.int x1]) (rest := []) (v := some (.int r8)) (M1 := gm M9) rfl (Or.inl rfl) rfl cw_1138 rfl (Nat.le_of_ble_eq_true rfl) (qfr_isWeek_ok _ (by omega) he10) ?_
        by_cases h27 : r8 = 0
        · rw [if_pos h27] at hs
          refine Rc.goL mt_1108 0 (f2 := (if r8 = 0 then 56 else 44, [.ref 0, .int x1, .int x2, .int x3, .ref s4, UU], [], gm M9)) (b := true) rfl rfl ?_
          rw [if_pos h27]
          refine Rc.goL mt_1108 0 (f2 := (57, [.ref 0, .int x1, .int x2, .int x3, .ref s4, UU], [.int (-1 : Int32)], gm M9)) (b := true) rfl rfl ?_
          obtain ⟨e1, e2⟩ := some_p hs; subst e1; subst e2
          exact Rc.ret (v := some (.int (-1 : Int32))) rfl rfl
        · rw [if_neg h27] at hs
          refine Rc.goL mt_1108 0 (f2 := (if r8 = 0 then 56 else 44, [.ref 0, .int x1, .int x2, .int x3, .ref s4, UU], [], gm M9)) (b := true) rfl rfl ?_
          rw [if_neg h27]
          refine Rc.goL mt_1108 0 (f2 := (45, [.ref 0, .int x1, .int x2, .int x3, .ref s4, UU], [.int x2], gm M9)) (b := true) rfl rfl ?_
          obtain ⟨r11, M12, he13, hs⟩ := ob_some hs
          refine Rc.callS (i := 155) (mid' := 1138) (av := [.int x2]) (rest := []) (v := some (.int r11)) (M1 := gm M12) rfl (Or.inl rfl) rfl cw_1138 rfl (Nat.le_of_ble_eq_true rfl) (qfr_isWeek_ok _ (by omega) he13) ?_
          by_cases h26 : r11 = 0
          · rw [if_pos h26] at hs
            refine Rc.goL mt_1108 0 (f2 := (if r11 = 0 then 56 else 51, [.ref 0, .int x1, .int x2, .int x3, .ref s4, UU], [], gm M12)) (b := true) rfl rfl ?_
            rw [if_pos h26]
            refine Rc.goL mt_1108 0 (f2 := (57, [.ref 0, .int x1, .int x2, .int x3, .ref s4, UU], [.int (-1 : Int32)], gm M12)) (b := true) rfl rfl ?_
            obtain ⟨e1, e2⟩ := some_p hs; subst e1; subst e2
            exact Rc.ret (v := some (.int (-1 : Int32))) rfl rfl
          · rw [if_neg h26] at hs
            refine Rc.goL mt_1108 0 (f2 := (if r11 = 0 then 56 else 51, [.ref 0, .int x1, .int x2, .int x3, .ref s4, UU], [], gm M12)) (b := true) rfl rfl ?_
            rw [if_neg h26]
            by_cases h25 : x2 < x1
            · rw [if_pos h25] at hs
              refine Rc.goL mt_1108 2 (f2 := (if x2 < x1 then 56 else 58, [.ref 0, .int x1, .int x2, .int x3, .ref s4, UU], [], gm M12)) (b := true) rfl rfl ?_
              rw [if_pos h25]
              refine Rc.goL mt_1108 0 (f2 := (57, [.ref 0, .int x1, .int x2, .int x3, .ref s4, UU], [.int (-1 : Int32)], gm M12)) (b := true) rfl rfl ?_
              obtain ⟨e1, e2⟩ := some_p hs; subst e1; subst e2
              exact Rc.ret (v := some (.int (-1 : Int32))) rfl rfl
            · rw [if_neg h25] at hs
              refine Rc.goL mt_1108 2 (f2 := (if x2 < x1 then 56 else 58, [.ref 0, .int x1, .int x2, .int x3, .ref s4, UU], [], gm M12)) (b := true) rfl rfl ?_
              rw [if_neg h25]
              refine Rc.goL mt_1108 3 (f2 := (65, [.ref 0, .int x1, .int x2, .int x3, .ref s4, UU], [.int x3, .ref s4, .ref 3], gm M12)) (b := true) rfl rfl ?_
              obtain ⟨r14, M15, he16, hs⟩ := ob_some hs
              refine Rc.callV (i := 158) (mid' := 702) (av := [.ref s4, .int x3]) (rest := []) (v := some (.int r14)) (M1 := gm M15) (a := 3) rfl rfl rfl cw_702 rfl (Nat.le_of_ble_eq_true rfl) rfl (Nat.le_of_ble_eq_true rfl) (qrd_readAct_ok _ (by omega) he16) ?_
              refine Rc.goL mt_1108 2 (f2 := (74, [.ref 0, .int x1, .int x2, .int x3, .ref s4, .int r14], [.ref 1], gm M15)) (b := true) rfl rfl ?_
              obtain ⟨u19, M17, he18, hs⟩ := ob_some hs
              refine Rc.callV (i := 145) (mid' := 906) (av := []) (rest := []) (v := none) (M1 := gm M17) (a := 1) rfl rfl rfl cw_906 rfl (Nat.le_of_ble_eq_true rfl) rfl (Nat.le_of_ble_eq_true rfl) (qtp_wipe_ok _ (by omega) he18) ?_
              by_cases h24 : r14 = 0
              · rw [if_pos h24] at hs
                refine Rc.goL mt_1108 1 (f2 := (if r14 = 0 then 85 else 82, [.ref 0, .int x1, .int x2, .int x3, .ref s4, .int r14], [], gm M17)) (b := true) rfl rfl ?_
                rw [if_pos h24]
                obtain ⟨hb20, hs⟩ := ck_some hs
                obtain ⟨hb20_0, hb20⟩ := and_t hb20
                obtain ⟨hb20_1, hb20⟩ := and_t hb20
                refine Rc.goL mt_1108 2 (f2 := (91, [.ref 0, .int x1, .int x2, .int x3, .ref s4, .int r14], [], gm (wI M17 s4 9 x1))) (b := (kc 336 s4 8 && true)) rfl (and_i hb20_0 rfl) ?_
                refine Rc.goL mt_1108 2 (f2 := (97, [.ref 0, .int x1, .int x2, .int x3, .ref s4, .int r14], [], gm (wI (wI M17 s4 9 x1) s4 10 x2))) (b := (kc 336 s4 8 && true)) rfl (and_i hb20_1 rfl) ?_
                refine Rc.goL mt_1108 1 (f2 := (101, [.ref 0, .int x1, .int x2, .int x3, .ref s4, .int r14], [.ref 12], gm (wI (wI M17 s4 9 x1) s4 10 x2))) (b := true) rfl rfl ?_
                obtain ⟨r21, M22, he23, hs⟩ := ob_some hs
                refine Rc.callV (i := 169) (mid' := 604) (av := []) (rest := []) (v := some (.int r21)) (M1 := gm M22) (a := 12) rfl rfl rfl cw_604 rfl (Nat.le_of_ble_eq_true rfl) rfl (Nat.le_of_ble_eq_true rfl) (qpr_keepAct_ok _ (by omega) he23) ?_
                obtain ⟨e1, e2⟩ := some_p hs; subst e1; subst e2
                exact Rc.ret (v := some (.int r21)) rfl rfl
              · rw [if_neg h24] at hs
                refine Rc.goL mt_1108 1 (f2 := (if r14 = 0 then 85 else 82, [.ref 0, .int x1, .int x2, .int x3, .ref s4, .int r14], [], gm M17)) (b := true) rfl rfl ?_
                rw [if_neg h24]
                refine Rc.goL mt_1108 0 (f2 := (84, [.ref 0, .int x1, .int x2, .int x3, .ref s4, .int r14], [.int r14], gm M17)) (b := true) rfl rfl ?_
                obtain ⟨e1, e2⟩ := some_p hs; subst e1; subst e2
                exact Rc.ret (v := some (.int r14)) rfl rfl
def qfr_uses (x1 : Int32) (x2 : Int32) (M : SM) : Option (Int32 × SM) :=
  ob (qtn_hasMaster x1 M) (fun r1 M2 =>
  if r1 = 0 then
  (some ((0 : Int32), M2)) else
  (ob (qpr_listAt x2 M2) (fun r4 M5 =>
    om r4 (
    some ((0 : Int32), M5)) (fun s7 =>
    ob (qtn_listIn x1 (M5.1 179 0) M5) (fun r8 M9 =>
      if r8 = x2 then
      (some ((0 : Int32), M9)) else
      (ob (qtn_listFromNow x1 x2 M9) (fun _ M11 =>
        some ((1 : Int32), M11))))))))
theorem mt_1109 : MT 1109 K_1109 LN_11 := ⟨rfl, rfl, by decide +kernel⟩
theorem okm_1109 : OKm 1109 := ⟨⟨vE_1109, okL_11, by decide +kernel⟩, by decide +kernel, by decide +kernel, by decide +kernel⟩
set_option maxRecDepth 20000 in
theorem qfr_uses_ok (d : Nat) (hd : 3 ≤ d) {x1 : Int32} {x2 : Int32} {M : SM} {r : Int32} {Mz : SM} (hs : qfr_uses x1 x2 M = some (r, Mz)) : Ex d 1109 [.ref 0, .int x1, .int x2] (gm M) (some (.int r), gm Mz) := by
  obtain ⟨d, rfl⟩ : ∃ d0, d = d0 + 1 := ⟨d - 1, by omega⟩
  refine Ex.of okm_1109 (by omega) (Nat.le_of_ble_eq_true rfl) ?_
  show Rc (d + 1) 1109 (0, [.ref 0, .int x1, .int x2], [], gm M) _
  unfold qfr_uses at hs
  refine Rc.goL mt_1109 2 (f2 := (5, [.ref 0, .int x1, .int x2], [.int x1, .ref 179], gm M)) (b := true) rfl rfl ?_
  obtain ⟨r1, M2, he3, hs⟩ := ob_some hs
  refine Rc.callV (i := 103) (mid' := 1002) (av := [.int x1]) (rest := []) (v := some (.int r1)) (M1 := gm M2) (a := 179) rfl rfl rfl cw_1002 rfl (Nat.le_of_ble_eq_true rfl) rfl (Nat.le_of_ble_eq_true rfl) (qtn_hasMaster_ok _ (by omega) he3) ?_
  by_cases h15 : r1 = 0
  · rw [if_pos h15] at hs
    refine Rc.goL mt_1109 0 (f2 := (if r1 = 0 then 22 else 11, [.ref 0, .int x1, .int x2], [], gm M2)) (b := true) rfl rfl ?_
    rw [if_pos h15]
    refine Rc.goL mt_1109 0 (f2 := (23, [.ref 0, .int x1, .int x2], [.int (0 : Int32)], gm M2)) (b := true) rfl rfl ?_
    obtain ⟨e1, e2⟩ := some_p hs; subst e1; subst e2
    exact Rc.ret (v := some (.int (0 : Int32))) rfl rfl
  · rw [if_neg h15] at hs
    refine Rc.goL mt_1109 0 (f2 := (if r1 = 0 then 22 else 11, [.ref 0, .int x1, .int x2], [], gm M2)) (b := true) rfl rfl ?_
    rw [if_neg h15]
    refine Rc.goL mt_1109 2 (f2 := (16, [.ref 0, .int x1, .int x2], [.int x2, .ref 12], gm M2)) (b := true) rfl rfl ?_
    obtain ⟨r4, M5, he6, hs⟩ := ob_some hs
    refine Rc.callV (i := 172) (mid' := 605) (av := [.int x2]) (rest := []) (v := some (rv r4)) (M1 := gm M5) (a := 12) rfl rfl rfl cw_605 rfl (Nat.le_of_ble_eq_true rfl) rfl (Nat.le_of_ble_eq_true rfl) (qpr_listAt_ok _ (by omega) he6) ?_
    cases r4 with
    | none =>
      have hs := om_none hs
      refine Rc.goL mt_1109 0 (f2 := (22, [.ref 0, .int x1, .int x2], [], gm M5)) (b := true) rfl rfl ?_
      refine Rc.goL mt_1109 0 (f2 := (23, [.ref 0, .int x1, .int x2], [.int (0 : Int32)], gm M5)) (b := true) rfl rfl ?_
      obtain ⟨e1, e2⟩ := some_p hs; subst e1; subst e2
      exact Rc.ret (v := some (.int (0 : Int32))) rfl rfl
    | some s7 =>
      have hs := om_some hs
      refine Rc.goL mt_1109 0 (f2 := (24, [.ref 0, .int x1, .int x2], [], gm M5)) (b := true) rfl rfl ?_
      refine Rc.goL mt_1109 5 (f2 := (36, [.ref 0, .int x1, .int x2], [.int (M5.1 179 0), .int x1, .ref 179], gm M5)) (b := true) rfl rfl ?_
      obtain ⟨r8, M9, he10, hs⟩ := ob_some hs
      refine Rc.callV (i := 176) (mid' := 1015) (av := [.int x1, .int (M5.1 179 0)]) (rest := []) (v := some (.int r8)) (M1 := gm M9) (a := 179) rfl rfl rfl cw_1015 rfl (Nat.le_of_ble_eq_true rfl) rfl (Nat.le_of_ble_eq_true rfl) (qtn_listIn_ok _ (by omega) he10) ?_
      by_cases h14 : r8 = x2
      · rw [if_pos h14] at hs
        refine Rc.goL mt_1109 1 (f2 := (if r8 = x2 then 43 else 45, [.ref 0, .int x1, .int x2], [], gm M9)) (b := true) rfl rfl ?_
        rw [if_pos h14]
        refine Rc.goL mt_1109 0 (f2 := (44, [.ref 0, .int x1, .int x2], [.int (0 : Int32)], gm M9)) (b := true) rfl rfl ?_
        obtain ⟨e1, e2⟩ := some_p hs; subst e1; subst e2
        exact Rc.ret (v := some (.int (0 : Int32))) rfl rfl
      · rw [if_neg h14] at hs
        refine Rc.goL mt_1109 1 (f2 := (if r8 = x2 then 43 else 45, [.ref 0, .int x1, .int x2], [], gm M9)) (b := true) rfl rfl ?_
        rw [if_neg h14]
        refine Rc.goL mt_1109 3 (f2 := (51, [.ref 0, .int x1, .int x2], [.int x2, .int x1, .ref 179], gm M9)) (b := true) rfl rfl ?_
        obtain ⟨u13, M11, he12, hs⟩ := ob_some hs
        refine Rc.callV (i := 179) (mid' := 1013) (av := [.int x1, .int x2]) (rest := []) (v := none) (M1 := gm M11) (a := 179) rfl rfl rfl cw_1013 rfl (Nat.le_of_ble_eq_true rfl) rfl (Nat.le_of_ble_eq_true rfl) (qtn_listFromNow_ok _ (by omega) he12) ?_
        refine Rc.goL mt_1109 0 (f2 := (55, [.ref 0, .int x1, .int x2], [.int (1 : Int32)], gm M11)) (b := true) rfl rfl ?_
        obtain ⟨e1, e2⟩ := some_p hs; subst e1; subst e2
        exact Rc.ret (v := some (.int (1 : Int32))) rfl rfl
def qfr_listOf (x1 : Int32) (x2 : Int32) (M : SM) : Option (Int32 × SM) :=
  ob (qtn_listIn x1 x2 M) (fun r1 M2 =>
  some (r1, M2))
theorem mt_1110 : MT 1110 K_1110 LN_11 := ⟨rfl, rfl, by decide +kernel⟩
theorem okm_1110 : OKm 1110 := ⟨⟨vE_1110, okL_11, by decide +kernel⟩, by decide +kernel, by decide +kernel, by decide +kernel⟩
set_option maxRecDepth 20000 in
theorem qfr_listOf_ok (d : Nat) (hd : 3 ≤ d) {x1 : Int32} {x2 : Int32} {M : SM} {r : Int32} {Mz : SM} (hs : qfr_listOf x1 x2 M = some (r, Mz)) : Ex d 1110 [.ref 0, .int x1, .int x2] (gm M) (some (.int r), gm Mz) := by
  obtain ⟨d, rfl⟩ : ∃ d0, d = d0 + 1 := ⟨d - 1, by omega⟩
  refine Ex.of okm_1110 (by omega) (Nat.le_of_ble_eq_true rfl) ?_
  show Rc (d + 1) 1110 (0, [.ref 0, .int x1, .int x2], [], gm M) _
  unfold qfr_listOf at hs
  refine Rc.goL mt_1110 3 (f2 := (6, [.ref 0, .int x1, .int x2], [.int x2, .int x1, .ref 179], gm M)) (b := true) rfl rfl ?_
  obtain ⟨r1, M2, he3, hs⟩ := ob_some hs
  refine Rc.callV (i := 176) (mid' := 1015) (av := [.int x1, .int x2]) (rest := []) (v := some (.int r1)) (M1 := gm M2) (a := 179) rfl rfl rfl cw_1015 rfl (Nat.le_of_ble_eq_true rfl) rfl (Nat.le_of_ble_eq_true rfl) (qtn_listIn_ok _ (by omega) he3) ?_
  obtain ⟨e1, e2⟩ := some_p hs; subst e1; subst e2
  exact Rc.ret (v := some (.int r1)) rfl rfl
def qfr_worth_L40 (k73 : Int32 → Nat → SM → Option (Int64 × SM)) : Nat → Int32 → Nat → Int32 → SM → Option (Int64 × SM)
  | 0, _, _, _, _ => none
  | n + 1, x2, x3, x4, M =>
    if x4 < (10 : Int32) then
    (ob (qtp_intAt ((4 : Int32) * x4) M) (fun r8 M9 =>
      ob (qpr_setFact x4 r8 M9) (fun _ M11 =>
      qfr_worth_L40 k73 n x2 x3 (x4 + (1 : Int32)) M11))) else
    (k73 x2 x3 M)
def qfr_worth (x1 : Int32) (x2 : Int32) (M : SM) : Option (Int64 × SM) :=
  ob (qpr_listAt x1 M) (fun r1 M2 =>
  om r1 (
  some ((0 : Int64), M2)) (fun s4 =>
  ob (qfr_within x2 (0 : Int32) (25 : Int32) M2) (fun r5 M6 =>
    if r5 = 0 then
    (some ((0 : Int64), M6)) else
    (if (M6.1 1 1) < (40 : Int32) then
      (some ((0 : Int64), M6)) else
      (qfr_worth_L40 (fun y2_15 y3_16 M17 =>
        ob (qtp_wipe M17) (fun _ M18 =>
          ob (qpr_reckonLetters (some y3_16) M18) (fun _ M21 =>
          ob (qpr_letterAt y2_15 M21) (fun r24 M25 =>
          some (r24, M25))))) FU x2 s4 (0 : Int32) M6)))))
theorem mt_1111 : MT 1111 K_1111 LN_11 := ⟨rfl, rfl, by decide +kernel⟩
theorem okm_1111 : OKm 1111 := ⟨⟨vE_1111, okL_11, by decide +kernel⟩, by decide +kernel, by decide +kernel, by decide +kernel⟩
set_option maxRecDepth 20000 in
theorem qfr_worth_L40_ok (d : Nat) (hd : 5 ≤ d + 1) (k73 : Int32 → Nat → SM → Option (Int64 × SM)) (hk73 : ∀ (y2 : Int32) (y3 : Nat) (M : SM) (r : Int64) (Mz : SM), k73 y2 y3 M = some (r, Mz) → Rc (d + 1) 1111 (73, [.ref 0, UU, .int y2, .ref y3, UU], [], gm M) (some (.long r), gm Mz)) : ∀ (n : Nat) (x2 : Int32) (x3 : Nat) (x4 : Int32) (M : SM) (r : Int64) (Mz : SM), qfr_worth_L40 k73 n x2 x3 x4 M = some (r, Mz) → Rc (d + 1) 1111 (40, [.ref 0, UU, .int x2, .ref x3, .int x4], [], gm M) (some (.long r), gm Mz) := by
  intro n
  induction n with
  | zero => intro x2 x3 x4 M r Mz hs; cases hs
  | succ n ih =>
    intro x2 x3 x4 M r Mz hs
    rw [qfr_worth_L40] at hs
    by_cases h14 : x4 < (10 : Int32)
    · rw [if_pos h14] at hs
      refine Rc.goL mt_1111 2 (f2 := (if x4 < (10 : Int32) then 47 else 73, [.ref 0, UU, .int x2, .ref x3, .int x4], [], gm M)) (b := true) rfl rfl ?_
      rw [if_pos h14]
      refine Rc.goL mt_1111 6 (f2 := (60, [.ref 0, UU, .int x2, .ref x3, .int x4], [.int x4, .int (4 : Int32), .ref 1, .int x4, .ref 12], gm M)) (b := true) rfl rfl ?_
      refine Rc.goL mt_1111 0 (f2 := (61, [.ref 0, UU, .int x2, .ref x3, .int x4], [.int ((4 : Int32) * x4), .ref 1, .int x4, .ref 12], gm M)) (b := true) rfl rfl ?_
      obtain ⟨r8, M9, he10, hs⟩ := ob_some hs
      refine Rc.callV (i := 182) (mid' := 905) (av := [.int ((4 : Int32) * x4)]) (rest := [.int x4, .ref 12]) (v := some (.int r8)) (M1 := gm M9) (a := 1) rfl rfl rfl cw_905 rfl (Nat.le_of_ble_eq_true rfl) rfl (Nat.le_of_ble_eq_true rfl) (qtp_intAt_ok _ (by omega) he10) ?_
      obtain ⟨u13, M11, he12, hs⟩ := ob_some hs
      refine Rc.callV (i := 185) (mid' := 607) (av := [.int x4, .int r8]) (rest := []) (v := none) (M1 := gm M11) (a := 12) rfl rfl rfl cw_607 rfl (Nat.le_of_ble_eq_true rfl) rfl (Nat.le_of_ble_eq_true rfl) (qpr_setFact_ok _ (by omega) he12) ?_
      refine Rc.goL mt_1111 1 (f2 := (40, [.ref 0, UU, .int x2, .ref x3, .int (x4 + (1 : Int32))], [], gm M11)) (b := true) rfl rfl ?_
      refine Rc.less (ls2 := [.ref 0, UU, .int x2, .ref x3, .int (x4 + (1 : Int32))]) (by refine ⟨Or.inr rfl, Or.inl rfl, Or.inr rfl, Or.inr rfl, Or.inr rfl, trivial⟩) ?_
      exact ih x2 x3 (x4 + (1 : Int32)) _ _ _ hs
    · rw [if_neg h14] at hs
      refine Rc.goL mt_1111 2 (f2 := (if x4 < (10 : Int32) then 47 else 73, [.ref 0, UU, .int x2, .ref x3, .int x4], [], gm M)) (b := true) rfl rfl ?_
      rw [if_neg h14]
      refine Rc.less (ls2 := [.ref 0, UU, .int x2, .ref x3, UU]) (by refine ⟨Or.inr rfl, Or.inl rfl, Or.inr rfl, Or.inr rfl, Or.inl rfl, trivial⟩) ?_
      exact hk73 x2 x3 _ _ _ hs
set_option maxRecDepth 20000 in
theorem qfr_worth_ok (d : Nat) (hd : 5 ≤ d) {x1 : Int32} {x2 : Int32} {M : SM} {r : Int64} {Mz : SM} (hs : qfr_worth x1 x2 M = some (r, Mz)) : Ex d 1111 [.ref 0, .int x1, .int x2] (gm M) (some (.long r), gm Mz) := by
  obtain ⟨d, rfl⟩ : ∃ d0, d = d0 + 1 := ⟨d - 1, by omega⟩
  refine Ex.of okm_1111 (by omega) (Nat.le_of_ble_eq_true rfl) ?_
  show Rc (d + 1) 1111 (0, [.ref 0, .int x1, .int x2, UU, UU], [], gm M) _
  unfold qfr_worth at hs
  refine Rc.goL mt_1111 2 (f2 := (5, [.ref 0, .int x1, .int x2, UU, UU], [.int x1, .ref 12], gm M)) (b := true) rfl rfl ?_
  obtain ⟨r1, M2, he3, hs⟩ := ob_some hs
  refine Rc.callV (i := 172) (mid' := 605) (av := [.int x1]) (rest := []) (v := some (rv r1)) (M1 := gm M2) (a := 12) rfl rfl rfl cw_605 rfl (Nat.le_of_ble_eq_true rfl) rfl (Nat.le_of_ble_eq_true rfl) (qpr_listAt_ok _ (by omega) he3) ?_
  cases r1 with
  | none =>
    have hs := om_none hs
    refine Rc.goL mt_1111 2 (f2 := (35, [.ref 0, .int x1, .int x2, .null, UU], [], gm M2)) (b := true) rfl rfl ?_
    refine Rc.goL mt_1111 0 (f2 := (36, [.ref 0, .int x1, .int x2, .null, UU], [.long (0 : Int64)], gm M2)) (b := true) rfl rfl ?_
    obtain ⟨e1, e2⟩ := some_p hs; subst e1; subst e2
    exact Rc.ret (v := some (.long (0 : Int64))) rfl rfl
  | some s4 =>
    have hs := om_some hs
    refine Rc.goL mt_1111 2 (f2 := (13, [.ref 0, .int x1, .int x2, .ref s4, UU], [], gm M2)) (b := true) rfl rfl ?_
    refine Rc.goL mt_1111 2 (f2 := (17, [.ref 0, .int x1, .int x2, .ref s4, UU], [.int (25 : Int32), .int (0 : Int32), .int x2], gm M2)) (b := true) rfl rfl ?_
    obtain ⟨r5, M6, he7, hs⟩ := ob_some hs
    refine Rc.callS (i := 96) (mid' := 1137) (av := [.int x2, .int (0 : Int32), .int (25 : Int32)]) (rest := []) (v := some (.int r5)) (M1 := gm M6) rfl (Or.inl rfl) rfl cw_1137 rfl (Nat.le_of_ble_eq_true rfl) (qfr_within_ok _ (by omega) he7) ?_
    by_cases h28 : r5 = 0
    · rw [if_pos h28] at hs
      refine Rc.goL mt_1111 0 (f2 := (if r5 = 0 then 35 else 23, [.ref 0, .int x1, .int x2, .ref s4, UU], [], gm M6)) (b := true) rfl rfl ?_
      rw [if_pos h28]
      refine Rc.goL mt_1111 0 (f2 := (36, [.ref 0, .int x1, .int x2, .ref s4, UU], [.long (0 : Int64)], gm M6)) (b := true) rfl rfl ?_
      obtain ⟨e1, e2⟩ := some_p hs; subst e1; subst e2
      exact Rc.ret (v := some (.long (0 : Int64))) rfl rfl
    · rw [if_neg h28] at hs
      refine Rc.goL mt_1111 0 (f2 := (if r5 = 0 then 35 else 23, [.ref 0, .int x1, .int x2, .ref s4, UU], [], gm M6)) (b := true) rfl rfl ?_
      rw [if_neg h28]
      by_cases h27 : (M6.1 1 1) < (40 : Int32)
      · rw [if_pos h27] at hs
        refine Rc.goL mt_1111 4 (f2 := (if (M6.1 1 1) < (40 : Int32) then 35 else 37, [.ref 0, .int x1, .int x2, .ref s4, UU], [], gm M6)) (b := true) rfl rfl ?_
        rw [if_pos h27]
        refine Rc.goL mt_1111 0 (f2 := (36, [.ref 0, .int x1, .int x2, .ref s4, UU], [.long (0 : Int64)], gm M6)) (b := true) rfl rfl ?_
        obtain ⟨e1, e2⟩ := some_p hs; subst e1; subst e2
        exact Rc.ret (v := some (.long (0 : Int64))) rfl rfl
      · rw [if_neg h27] at hs
        refine Rc.goL mt_1111 4 (f2 := (if (M6.1 1 1) < (40 : Int32) then 35 else 37, [.ref 0, .int x1, .int x2, .ref s4, UU], [], gm M6)) (b := true) rfl rfl ?_
        rw [if_neg h27]
        refine Rc.goL mt_1111 1 (f2 := (40, [.ref 0, .int x1, .int x2, .ref s4, .int (0 : Int32)], [], gm M6)) (b := true) rfl rfl ?_
        refine Rc.less (ls2 := [.ref 0, UU, .int x2, .ref s4, .int (0 : Int32)]) (by refine ⟨Or.inr rfl, Or.inl rfl, Or.inr rfl, Or.inr rfl, Or.inr rfl, trivial⟩) ?_
        refine qfr_worth_L40_ok d hd _ (fun y2_15 y3_16 M17 r Mz hs => ?_) _ x2 s4 (0 : Int32) _ _ _ hs
        · refine Rc.goL mt_1111 1 (f2 := (77, [.ref 0, UU, .int y2_15, .ref y3_16, UU], [.ref 1], gm M17)) (b := true) rfl rfl ?_
          obtain ⟨u20, M18, he19, hs⟩ := ob_some hs
          refine Rc.callV (i := 145) (mid' := 906) (av := []) (rest := []) (v := none) (M1 := gm M18) (a := 1) rfl rfl rfl cw_906 rfl (Nat.le_of_ble_eq_true rfl) rfl (Nat.le_of_ble_eq_true rfl) (qtp_wipe_ok _ (by omega) he19) ?_
          refine Rc.goL mt_1111 2 (f2 := (85, [.ref 0, UU, .int y2_15, .ref y3_16, UU], [.ref y3_16, .ref 12], gm M18)) (b := true) rfl rfl ?_
          obtain ⟨u23, M21, he22, hs⟩ := ob_some hs
          refine Rc.callV (i := 188) (mid' := 610) (av := [rv (some y3_16)]) (rest := []) (v := none) (M1 := gm M21) (a := 12) rfl rfl rfl cw_610 rfl (Nat.le_of_ble_eq_true rfl) rfl (Nat.le_of_ble_eq_true rfl) (qpr_reckonLetters_ok _ (by omega) he22) ?_
          refine Rc.goL mt_1111 2 (f2 := (93, [.ref 0, UU, .int y2_15, .ref y3_16, UU], [.int y2_15, .ref 12], gm M21)) (b := true) rfl rfl ?_
          obtain ⟨r24, M25, he26, hs⟩ := ob_some hs
          refine Rc.callV (i := 192) (mid' := 609) (av := [.int y2_15]) (rest := []) (v := some (.long r24)) (M1 := gm M25) (a := 12) rfl rfl rfl cw_609 rfl (Nat.le_of_ble_eq_true rfl) rfl (Nat.le_of_ble_eq_true rfl) (qpr_letterAt_ok _ (by omega) he26) ?_
          obtain ⟨e1, e2⟩ := some_p hs; subst e1; subst e2
          exact Rc.ret (v := some (.long r24)) rfl rfl
def qfr_entry (x1 : Int32) (x2 : Int32) (x3 : Int32) (x4 : Int32) (x5 : Int32) (x6 : Int32) (x7 : Int32) (M : SM) : Option (Int32 × SM) :=
  ob (qtn_hasFrame x1 M) (fun r1 M2 =>
  if r1 = 0 then
  (some ((-1 : Int32), M2)) else
  (ob (qfr_within x2 (0 : Int32) (M2.1 179 0) M2) (fun r4 M5 =>
    if r4 = 0 then
    (some ((-1 : Int32), M5)) else
    (ob (qfr_within x3 (0 : Int32) (9 : Int32) M5) (fun r7 M8 =>
      if r7 = 0 then
      (some ((-1 : Int32), M8)) else
      (ob (qfr_within x4 (0 : Int32) (99 : Int32) M8) (fun r10 M11 =>
        if r10 = 0 then
        (some ((-1 : Int32), M11)) else
        (ob (qfr_within x5 (0 : Int32) (999 : Int32) M11) (fun r13 M14 =>
          if r13 = 0 then
          (some ((-1 : Int32), M14)) else
          (ob (qfr_within x6 (0 : Int32) (9999 : Int32) M14) (fun r16 M17 =>
            if r16 = 0 then
            (some ((-1 : Int32), M17)) else
            (ob (qfr_within x7 (0 : Int32) (9999 : Int32) M17) (fun r19 M20 =>
              if r19 = 0 then
              (some ((-1 : Int32), M20)) else
              (ob (qen_open x1 x2 (M20.1 179 0) M20) (fun r22 M23 =>
                if r22 = (-1 : Int32) then
                (some ((-1 : Int32), M23)) else
                (ob (qen_put r22 (2 : Int32) x3 M23) (fun _ M25 =>
                  ob (qen_put r22 (3 : Int32) x4 M25) (fun _ M28 =>
                  ob (qen_put r22 (4 : Int32) x5 M28) (fun _ M31 =>
                  ob (qen_put r22 (5 : Int32) x6 M31) (fun _ M34 =>
                  ob (qen_put r22 (6 : Int32) x7 M34) (fun _ M37 =>
                  some (r22, M37))))))))))))))))))))))
theorem mt_1112 : MT 1112 K_1112 LN_11 := ⟨rfl, rfl, by decide +kernel⟩
theorem okm_1112 : OKm 1112 := ⟨⟨vE_1112, okL_11, by decide +kernel⟩, by decide +kernel, by decide +kernel, by decide +kernel⟩
set_option maxRecDepth 20000 in
theorem qfr_entry_ok (d : Nat) (hd : 4 ≤ d) {x1 : Int32} {x2 : Int32} {x3 : Int32} {x4 : Int32} {x5 : Int32} {x6 : Int32} {x7 : Int32} {M : SM} {r : Int32} {Mz : SM} (hs : qfr_entry x1 x2 x3 x4 x5 x6 x7 M = some (r, Mz)) : Ex d 1112 [.ref 0, .int x1, .int x2, .int x3, .int x4, .int x5, .int x6, .int x7] (gm M) (some (.int r), gm Mz) := by
  obtain ⟨d, rfl⟩ : ∃ d0, d = d0 + 1 := ⟨d - 1, by omega⟩
  refine Ex.of okm_1112 (by omega) (Nat.le_of_ble_eq_true rfl) ?_
  show Rc (d + 1) 1112 (0, [.ref 0, .int x1, .int x2, .int x3, .int x4, .int x5, .int x6, .int x7, UU], [], gm M) _
  unfold qfr_entry at hs
  refine Rc.goL mt_1112 2 (f2 := (5, [.ref 0, .int x1, .int x2, .int x3, .int x4, .int x5, .int x6, .int x7, UU], [.int x1, .ref 179], gm M)) (b := true) rfl rfl ?_
  obtain ⟨r1, M2, he3, hs⟩ := ob_some hs
  refine Rc.callV (i := 196) (mid' := 1004) (av := [.int x1]) (rest := []) (v := some (.int r1)) (M1 := gm M2) (a := 179) rfl rfl rfl cw_1004 rfl (Nat.le_of_ble_eq_true rfl) rfl (Nat.le_of_ble_eq_true rfl) (qtn_hasFrame_ok _ (by omega) he3) ?_
  by_cases h47 : r1 = 0
  · rw [if_pos h47] at hs
    refine Rc.goL mt_1112 0 (f2 := (if r1 = 0 then 26 else 11, [.ref 0, .int x1, .int x2, .int x3, .int x4, .int x5, .int x6, .int x7, UU], [], gm M2)) (b := true) rfl rfl ?_
    rw [if_pos h47]
    refine Rc.goL mt_1112 0 (f2 := (27, [.ref 0, .int x1, .int x2, .int x3, .int x4, .int x5, .int x6, .int x7, UU], [.int (-1 : Int32)], gm M2)) (b := true) rfl rfl ?_
    obtain ⟨e1, e2⟩ := some_p hs; subst e1; subst e2
    exact Rc.ret (v := some (.int (-1 : Int32))) rfl rfl
  · rw [if_neg h47] at hs
    refine Rc.goL mt_1112 0 (f2 := (if r1 = 0 then 26 else 11, [.ref 0, .int x1, .int x2, .int x3, .int x4, .int x5, .int x6, .int x7, UU], [], gm M2)) (b := true) rfl rfl ?_
    rw [if_neg h47]
    refine Rc.goL mt_1112 4 (f2 := (20, [.ref 0, .int x1, .int x2, .int x3, .int x4, .int x5, .int x6, .int x7, UU], [.int (M2.1 179 0), .int (0 : Int32), .int x2], gm M2)) (b := true) rfl rfl ?_
    obtain ⟨r4, M5, he6, hs⟩ := ob_some hs
    refine Rc.callS (i := 96) (mid' := 1137) (av := [.int x2, .int (0 : Int32), .int (M2.1 179 0)]) (rest := []) (v := some (.int r4)) (M1 := gm M5) rfl (Or.inl rfl) rfl cw_1137 rfl (Nat.le_of_ble_eq_true rfl) (qfr_within_ok _ (by omega) he6) ?_
    by_cases h46 : r4 = 0
    · rw [if_pos h46] at hs
      refine Rc.goL mt_1112 0 (f2 := (if r4 = 0 then 26 else 28, [.ref 0, .int x1, .int x2, .int x3, .int x4, .int x5, .int x6, .int x7, UU], [], gm M5)) (b := true) rfl rfl ?_
      rw [if_pos h46]
      refine Rc.goL mt_1112 0 (f2 := (27, [.ref 0, .int x1, .int x2, .int x3, .int x4, .int x5, .int x6, .int x7, UU], [.int (-1 : Int32)], gm M5)) (b := true) rfl rfl ?_
      obtain ⟨e1, e2⟩ := some_p hs; subst e1; subst e2
      exact Rc.ret (v := some (.int (-1 : Int32))) rfl rfl
    · rw [if_neg h46] at hs
      refine Rc.goL mt_1112 0 (f2 := (if r4 = 0 then 26 else 28, [.ref 0, .int x1, .int x2, .int x3, .int x4, .int x5, .int x6, .int x7, UU], [], gm M5)) (b := true) rfl rfl ?_
      rw [if_neg h46]
      refine Rc.goL mt_1112 2 (f2 := (32, [.ref 0, .int x1, .int x2, .int x3, .int x4, .int x5, .int x6, .int x7, UU], [.int (9 : Int32), .int (0 : Int32), .int x3], gm M5)) (b := true) rfl rfl ?_
      obtain ⟨r7, M8, he9, hs⟩ := ob_some hs
      refine Rc.callS (i := 96) (mid' := 1137) (av := [.int x3, .int (0 : Int32), .int (9 : Int32)]) (rest := []) (v := some (.int r7)) (M1 := gm M8) rfl (Or.inl rfl) rfl cw_1137 rfl (Nat.le_of_ble_eq_true rfl) (qfr_within_ok _ (by omega) he9) ?_
      by_cases h45 : r7 = 0
      · rw [if_pos h45] at hs
        refine Rc.goL mt_1112 0 (f2 := (if r7 = 0 then 61 else 38, [.ref 0, .int x1, .int x2, .int x3, .int x4, .int x5, .int x6, .int x7, UU], [], gm M8)) (b := true) rfl rfl ?_
        rw [if_pos h45]
        refine Rc.goL mt_1112 0 (f2 := (62, [.ref 0, .int x1, .int x2, .int x3, .int x4, .int x5, .int x6, .int x7, UU], [.int (-1 : Int32)], gm M8)) (b := true) rfl rfl ?_
        obtain ⟨e1, e2⟩ := some_p hs; subst e1; subst e2
        exact Rc.ret (v := some (.int (-1 : Int32))) rfl rfl
      · rw [if_neg h45] at hs
        refine Rc.goL mt_1112 0 (f2 := (if r7 = 0 then 61 else 38, [.ref 0, .int x1, .int x2, .int x3, .int x4, .int x5, .int x6, .int x7, UU], [], gm M8)) (b := true) rfl rfl ?_
        rw [if_neg h45]
        refine Rc.goL mt_1112 2 (f2 := (43, [.ref 0, .int x1, .int x2, .int x3, .int x4, .int x5, .int x6, .int x7, UU], [.int (99 : Int32), .int (0 : Int32), .int x4], gm M8)) (b := true) rfl rfl ?_
        obtain ⟨r10, M11, he12, hs⟩ := ob_some hs
        refine Rc.callS (i := 96) (mid' := 1137) (av := [.int x4, .int (0 : Int32), .int (99 : Int32)]) (rest := []) (v := some (.int r10)) (M1 := gm M11) rfl (Or.inl rfl) rfl cw_1137 rfl (Nat.le_of_ble_eq_true rfl) (qfr_within_ok _ (by omega) he12) ?_
        by_cases h44 : r10 = 0
        · rw [if_pos h44] at hs
          refine Rc.goL mt_1112 0 (f2 := (if r10 = 0 then 61 else 49, [.ref 0, .int x1, .int x2, .int x3, .int x4, .int x5, .int x6, .int x7, UU], [], gm M11)) (b := true) rfl rfl ?_
          rw [if_pos h44]
          refine Rc.goL mt_1112 0 (f2 := (62, [.ref 0, .int x1, .int x2, .int x3, .int x4, .int x5, .int x6, .int x7, UU], [.int (-1 : Int32)], gm M11)) (b := true) rfl rfl ?_
          obtain ⟨e1, e2⟩ := some_p hs; subst e1; subst e2
          exact Rc.ret (v := some (.int (-1 : Int32))) rfl rfl
        · rw [if_neg h44] at hs
          refine Rc.goL mt_1112 0 (f2 := (if r10 = 0 then 61 else 49, [.ref 0, .int x1, .int x2, .int x3, .int x4, .int x5, .int x6, .int x7, UU], [], gm M11)) (b := true) rfl rfl ?_
          rw [if_neg h44]
          refine Rc.goL mt_1112 2 (f2 := (55, [.ref 0, .int x1, .int x2, .int x3, .int x4, .int x5, .int x6, .int x7, UU], [.int (999 : Int32), .int (0 : Int32), .int x5], gm M11)) (b := true) rfl rfl ?_
          obtain ⟨r13, M14, he15, hs⟩ := ob_some hs
          refine Rc.callS (i := 96) (mid' := 1137) (av := [.int x5, .int (0 : Int32), .int (999 : Int32)]) (rest := []) (v := some (.int r13)) (M1 := gm M14) rfl (Or.inl rfl) rfl cw_1137 rfl (Nat.le_of_ble_eq_true rfl) (qfr_within_ok _ (by omega) he15) ?_
          by_cases h43 : r13 = 0
          · rw [if_pos h43] at hs
            refine Rc.goL mt_1112 0 (f2 := (if r13 = 0 then 61 else 63, [.ref 0, .int x1, .int x2, .int x3, .int x4, .int x5, .int x6, .int x7, UU], [], gm M14)) (b := true) rfl rfl ?_
            rw [if_pos h43]
            refine Rc.goL mt_1112 0 (f2 := (62, [.ref 0, .int x1, .int x2, .int x3, .int x4, .int x5, .int x6, .int x7, UU], [.int (-1 : Int32)], gm M14)) (b := true) rfl rfl ?_
            obtain ⟨e1, e2⟩ := some_p hs; subst e1; subst e2
            exact Rc.ret (v := some (.int (-1 : Int32))) rfl rfl
          · rw [if_neg h43] at hs
            refine Rc.goL mt_1112 0 (f2 := (if r13 = 0 then 61 else 63, [.ref 0, .int x1, .int x2, .int x3, .int x4, .int x5, .int x6, .int x7, UU], [], gm M14)) (b := true) rfl rfl ?_
            rw [if_neg h43]
            refine Rc.goL mt_1112 2 (f2 := (69, [.ref 0, .int x1, .int x2, .int x3, .int x4, .int x5, .int x6, .int x7, UU], [.int (9999 : Int32), .int (0 : Int32), .int x6], gm M14)) (b := true) rfl rfl ?_
            obtain ⟨r16, M17, he18, hs⟩ := ob_some hs
            refine Rc.callS (i := 96) (mid' := 1137) (av := [.int x6, .int (0 : Int32), .int (9999 : Int32)]) (rest := []) (v := some (.int r16)) (M1 := gm M17) rfl (Or.inl rfl) rfl cw_1137 rfl (Nat.le_of_ble_eq_true rfl) (qfr_within_ok _ (by omega) he18) ?_
            by_cases h42 : r16 = 0
            · rw [if_pos h42] at hs
              refine Rc.goL mt_1112 0 (f2 := (if r16 = 0 then 87 else 75, [.ref 0, .int x1, .int x2, .int x3, .int x4, .int x5, .int x6, .int x7, UU], [], gm M17)) (b := true) rfl rfl ?_
              rw [if_pos h42]
              refine Rc.goL mt_1112 0 (f2 := (88, [.ref 0, .int x1, .int x2, .int x3, .int x4, .int x5, .int x6, .int x7, UU], [.int (-1 : Int32)], gm M17)) (b := true) rfl rfl ?_
              obtain ⟨e1, e2⟩ := some_p hs; subst e1; subst e2
              exact Rc.ret (v := some (.int (-1 : Int32))) rfl rfl
            · rw [if_neg h42] at hs
              refine Rc.goL mt_1112 0 (f2 := (if r16 = 0 then 87 else 75, [.ref 0, .int x1, .int x2, .int x3, .int x4, .int x5, .int x6, .int x7, UU], [], gm M17)) (b := true) rfl rfl ?_
              rw [if_neg h42]
              refine Rc.goL mt_1112 2 (f2 := (81, [.ref 0, .int x1, .int x2, .int x3, .int x4, .int x5, .int x6, .int x7, UU], [.int (9999 : Int32), .int (0 : Int32), .int x7], gm M17)) (b := true) rfl rfl ?_
              obtain ⟨r19, M20, he21, hs⟩ := ob_some hs
              refine Rc.callS (i := 96) (mid' := 1137) (av := [.int x7, .int (0 : Int32), .int (9999 : Int32)]) (rest := []) (v := some (.int r19)) (M1 := gm M20) rfl (Or.inl rfl) rfl cw_1137 rfl (Nat.le_of_ble_eq_true rfl) (qfr_within_ok _ (by omega) he21) ?_
              by_cases h41 : r19 = 0
              · rw [if_pos h41] at hs
                refine Rc.goL mt_1112 0 (f2 := (if r19 = 0 then 87 else 89, [.ref 0, .int x1, .int x2, .int x3, .int x4, .int x5, .int x6, .int x7, UU], [], gm M20)) (b := true) rfl rfl ?_
                rw [if_pos h41]
                refine Rc.goL mt_1112 0 (f2 := (88, [.ref 0, .int x1, .int x2, .int x3, .int x4, .int x5, .int x6, .int x7, UU], [.int (-1 : Int32)], gm M20)) (b := true) rfl rfl ?_
                obtain ⟨e1, e2⟩ := some_p hs; subst e1; subst e2
                exact Rc.ret (v := some (.int (-1 : Int32))) rfl rfl
              · rw [if_neg h41] at hs
                refine Rc.goL mt_1112 0 (f2 := (if r19 = 0 then 87 else 89, [.ref 0, .int x1, .int x2, .int x3, .int x4, .int x5, .int x6, .int x7, UU], [], gm M20)) (b := true) rfl rfl ?_
                rw [if_neg h41]
                refine Rc.goL mt_1112 6 (f2 := (102, [.ref 0, .int x1, .int x2, .int x3, .int x4, .int x5, .int x6, .int x7, UU], [.int (M20.1 179 0), .int x2, .int x1, .ref 210], gm M20)) (b := true) rfl rfl ?_
                obtain ⟨r22, M23, he24, hs⟩ := ob_some hs
                refine Rc.callV (i := 199) (mid' := 203) (av := [.int x1, .int x2, .int (M20.1 179 0)]) (rest := []) (v := some (.int r22)) (M1 := gm M23) (a := 210) rfl rfl rfl cw_203 rfl (Nat.le_of_ble_eq_true rfl) rfl (Nat.le_of_ble_eq_true rfl) (qen_open_ok _ (by omega) he24) ?_
                by_cases h40 : r22 = (-1 : Int32)
                · rw [if_pos h40] at hs
                  refine Rc.goL mt_1112 3 (f2 := (if r22 = (-1 : Int32) then 113 else 115, [.ref 0, .int x1, .int x2, .int x3, .int x4, .int x5, .int x6, .int x7, .int r22], [], gm M23)) (b := true) rfl rfl ?_
                  rw [if_pos h40]
                  refine Rc.goL mt_1112 0 (f2 := (114, [.ref 0, .int x1, .int x2, .int x3, .int x4, .int x5, .int x6, .int x7, .int r22], [.int (-1 : Int32)], gm M23)) (b := true) rfl rfl ?_
                  obtain ⟨e1, e2⟩ := some_p hs; subst e1; subst e2
                  exact Rc.ret (v := some (.int (-1 : Int32))) rfl rfl
                · rw [if_neg h40] at hs
                  refine Rc.goL mt_1112 3 (f2 := (if r22 = (-1 : Int32) then 113 else 115, [.ref 0, .int x1, .int x2, .int x3, .int x4, .int x5, .int x6, .int x7, .int r22], [], gm M23)) (b := true) rfl rfl ?_
                  rw [if_neg h40]
                  refine Rc.goL mt_1112 4 (f2 := (123, [.ref 0, .int x1, .int x2, .int x3, .int x4, .int x5, .int x6, .int x7, .int r22], [.int x3, .int (2 : Int32), .int r22, .ref 210], gm M23)) (b := true) rfl rfl ?_
                  obtain ⟨u27, M25, he26, hs⟩ := ob_some hs
                  refine Rc.callV (i := 202) (mid' := 204) (av := [.int r22, .int (2 : Int32), .int x3]) (rest := []) (v := none) (M1 := gm M25) (a := 210) rfl rfl rfl cw_204 rfl (Nat.le_of_ble_eq_true rfl) rfl (Nat.le_of_ble_eq_true rfl) (qen_put_ok _ (by omega) he26) ?_
                  refine Rc.goL mt_1112 4 (f2 := (135, [.ref 0, .int x1, .int x2, .int x3, .int x4, .int x5, .int x6, .int x7, .int r22], [.int x4, .int (3 : Int32), .int r22, .ref 210], gm M25)) (b := true) rfl rfl ?_
                  obtain ⟨u30, M28, he29, hs⟩ := ob_some hs
                  refine Rc.callV (i := 202) (mid' := 204) (av := [.int r22, .int (3 : Int32), .int x4]) (rest := []) (v := none) (M1 := gm M28) (a := 210) rfl rfl rfl cw_204 rfl (Nat.le_of_ble_eq_true rfl) rfl (Nat.le_of_ble_eq_true rfl) (qen_put_ok _ (by omega) he29) ?_
                  refine Rc.goL mt_1112 4 (f2 := (147, [.ref 0, .int x1, .int x2, .int x3, .int x4, .int x5, .int x6, .int x7, .int r22], [.int x5, .int (4 : Int32), .int r22, .ref 210], gm M28)) (b := true) rfl rfl ?_
                  obtain ⟨u33, M31, he32, hs⟩ := ob_some hs
                  refine Rc.callV (i := 202) (mid' := 204) (av := [.int r22, .int (4 : Int32), .int x5]) (rest := []) (v := none) (M1 := gm M31) (a := 210) rfl rfl rfl cw_204 rfl (Nat.le_of_ble_eq_true rfl) rfl (Nat.le_of_ble_eq_true rfl) (qen_put_ok _ (by omega) he32) ?_
                  refine Rc.goL mt_1112 4 (f2 := (159, [.ref 0, .int x1, .int x2, .int x3, .int x4, .int x5, .int x6, .int x7, .int r22], [.int x6, .int (5 : Int32), .int r22, .ref 210], gm M31)) (b := true) rfl rfl ?_
                  obtain ⟨u36, M34, he35, hs⟩ := ob_some hs
                  refine Rc.callV (i := 202) (mid' := 204) (av := [.int r22, .int (5 : Int32), .int x6]) (rest := []) (v := none) (M1 := gm M34) (a := 210) rfl rfl rfl cw_204 rfl (Nat.le_of_ble_eq_true rfl) rfl (Nat.le_of_ble_eq_true rfl) (qen_put_ok _ (by omega) he35) ?_
                  refine Rc.goL mt_1112 4 (f2 := (172, [.ref 0, .int x1, .int x2, .int x3, .int x4, .int x5, .int x6, .int x7, .int r22], [.int x7, .int (6 : Int32), .int r22, .ref 210], gm M34)) (b := true) rfl rfl ?_
                  obtain ⟨u39, M37, he38, hs⟩ := ob_some hs
                  refine Rc.callV (i := 202) (mid' := 204) (av := [.int r22, .int (6 : Int32), .int x7]) (rest := []) (v := none) (M1 := gm M37) (a := 210) rfl rfl rfl cw_204 rfl (Nat.le_of_ble_eq_true rfl) rfl (Nat.le_of_ble_eq_true rfl) (qen_put_ok _ (by omega) he38) ?_
                  refine Rc.goL mt_1112 0 (f2 := (177, [.ref 0, .int x1, .int x2, .int x3, .int x4, .int x5, .int x6, .int x7, .int r22], [.int r22], gm M37)) (b := true) rfl rfl ?_
                  obtain ⟨e1, e2⟩ := some_p hs; subst e1; subst e2
                  exact Rc.ret (v := some (.int r22)) rfl rfl
def qfr_idleWeeks_L25 (k89 : Int32 → SM → Option (Int32 × SM)) : Nat → Int32 → Int32 → Int32 → Int32 → Int32 → SM → Option (Int32 × SM)
  | 0, _, _, _, _, _, _ => none
  | n + 1, x1, x3, x4, x5, x6, M =>
    if x6 < 0 then
    (some (x5, M)) else
    (ob (qen_knownAt x1 x6 x3 M) (fun r4 M5 =>
      jn (fun (x1_7 : Int32) (x3_8 : Int32) (x4_9 : Int32) (x5_10 : Int32) (x6_11 : Int32) (t12 : Int32) (M13 : SM) =>
        if t12 = 0 then
          (ob (qtn_holderAt x1_7 x6_11 M13) (fun r14 M15 =>
            if r14 = x4_9 then
            (qfr_idleWeeks_L25 k89 n x1_7 x3_8 x4_9 (x5_10 + (1 : Int32)) (x6_11 + (-1 : Int32)) M15) else
            (k89 x5_10 M15))) else
          (some (x5_10, M13))) (fun j19 =>
      jn (fun (x1_20 : Int32) (x3_21 : Int32) (x4_22 : Int32) (x5_23 : Int32) (x6_24 : Int32) (M25 : SM) =>
        j19 x1_20 x3_21 x4_22 x5_23 x6_24 (0 : Int32) M25) (fun j26 =>
      if r4 = (-1 : Int32) then
      (j26 x1 x3 x4 x5 x6 M5) else
      (ob (qen_at r4 (3 : Int32) M5) (fun r27 M28 =>
        if 0 < r27 then
        (j19 x1 x3 x4 x5 x6 (1 : Int32) M28) else
        (j26 x1 x3 x4 x5 x6 M28)))))))
def qfr_idleWeeks (x1 : Int32) (x2 : Int32) (x3 : Int32) (M : SM) : Option (Int32 × SM) :=
  ob (qtn_holderAt x1 x2 M) (fun r1 M2 =>
  if r1 = (-1 : Int32) then
  (some ((0 : Int32), M2)) else
  (qfr_idleWeeks_L25 (fun y5_33 M34 =>
    some (y5_33, M34)) FU x1 x3 r1 (0 : Int32) x2 M2))
theorem mt_1142 : MT 1142 K_1142 LN_11 := ⟨rfl, rfl, by decide +kernel⟩
theorem okm_1142 : OKm 1142 := ⟨⟨vE_1142, okL_11, by decide +kernel⟩, by decide +kernel, by decide +kernel, by decide +kernel⟩
set_option maxRecDepth 20000 in
theorem qfr_idleWeeks_L25_ok (d : Nat) (hd : 4 ≤ d + 1) (k89 : Int32 → SM → Option (Int32 × SM)) (hk89 : ∀ (y5 : Int32) (M : SM) (r : Int32) (Mz : SM), k89 y5 M = some (r, Mz) → Rc (d + 1) 1142 (89, [UU, UU, UU, UU, UU, .int y5, UU, UU, UU], [], gm M) (some (.int r), gm Mz)) : ∀ (n : Nat) (x1 : Int32) (x3 : Int32) (x4 : Int32) (x5 : Int32) (x6 : Int32) (M : SM) (r : Int32) (Mz : SM), qfr_idleWeeks_L25 k89 n x1 x3 x4 x5 x6 M = some (r, Mz) → Rc (d + 1) 1142 (25, [.ref 0, .int x1, UU, .int x3, .int x4, .int x5, .int x6, UU, UU], [], gm M) (some (.int r), gm Mz) := by
  intro n
  induction n with
  | zero => intro x1 x3 x4 x5 x6 M r Mz hs; cases hs
  | succ n ih =>
    intro x1 x3 x4 x5 x6 M r Mz hs
    rw [qfr_idleWeeks_L25] at hs
    by_cases h32 : x6 < 0
    · rw [if_pos h32] at hs
      refine Rc.goL mt_1142 1 (f2 := (if x6 < 0 then 101 else 30, [.ref 0, .int x1, UU, .int x3, .int x4, .int x5, .int x6, UU, UU], [], gm M)) (b := true) rfl rfl ?_
      rw [if_pos h32]
      refine Rc.goL mt_1142 0 (f2 := (103, [.ref 0, .int x1, UU, .int x3, .int x4, .int x5, .int x6, UU, UU], [.int x5], gm M)) (b := true) rfl rfl ?_
      obtain ⟨e1, e2⟩ := some_p hs; subst e1; subst e2
      exact Rc.ret (v := some (.int x5)) rfl rfl
    · rw [if_neg h32] at hs
      refine Rc.goL mt_1142 1 (f2 := (if x6 < 0 then 101 else 30, [.ref 0, .int x1, UU, .int x3, .int x4, .int x5, .int x6, UU, UU], [], gm M)) (b := true) rfl rfl ?_
      rw [if_neg h32]
      refine Rc.goL mt_1142 4 (f2 := (38, [.ref 0, .int x1, UU, .int x3, .int x4, .int x5, .int x6, UU, UU], [.int x3, .int x6, .int x1, .ref 210], gm M)) (b := true) rfl rfl ?_
      obtain ⟨r4, M5, he6, hs⟩ := ob_some hs
      refine Rc.callV (i := 211) (mid' := 206) (av := [.int x1, .int x6, .int x3]) (rest := []) (v := some (.int r4)) (M1 := gm M5) (a := 210) rfl rfl rfl cw_206 rfl (Nat.le_of_ble_eq_true rfl) rfl (Nat.le_of_ble_eq_true rfl) (qen_knownAt_ok _ (by omega) he6) ?_
      refine jn_e (P := fun (j : Int32 → Int32 → Int32 → Int32 → Int32 → Int32 → SM → Option (Int32 × SM)) => ∀ (x1_7 : Int32) (x3_8 : Int32) (x4_9 : Int32) (x5_10 : Int32) (x6_11 : Int32) (t12 : Int32) (M13 : SM) (r : Int32) (Mz : SM), j x1_7 x3_8 x4_9 x5_10 x6_11 t12 M13 = some (r, Mz) → Rc (d + 1) 1142 (67, [.ref 0, .int x1_7, UU, .int x3_8, .int x4_9, .int x5_10, .int x6_11, UU, UU], [.int t12], gm M13) (some (.int r), gm Mz)) hs ?_ (fun j19 Hj19 hs => ?_)
      · intro x1_7 x3_8 x4_9 x5_10 x6_11 t12 M13 r Mz hs
        try dsimp only at hs
        by_cases h18 : t12 = 0
        · rw [if_pos h18] at hs
          refine Rc.goL mt_1142 2 (f2 := (if t12 = 0 then 74 else 101, [.ref 0, .int x1_7, UU, .int x3_8, .int x4_9, .int x5_10, .int x6_11, UU, .int t12], [], gm M13)) (b := true) rfl rfl ?_
          rw [if_pos h18]
          refine Rc.goL mt_1142 3 (f2 := (81, [.ref 0, .int x1_7, UU, .int x3_8, .int x4_9, .int x5_10, .int x6_11, UU, .int t12], [.int x6_11, .int x1_7, .ref 179], gm M13)) (b := true) rfl rfl ?_
          obtain ⟨r14, M15, he16, hs⟩ := ob_some hs
          refine Rc.callV (i := 119) (mid' := 1014) (av := [.int x1_7, .int x6_11]) (rest := []) (v := some (.int r14)) (M1 := gm M15) (a := 179) rfl rfl rfl cw_1014 rfl (Nat.le_of_ble_eq_true rfl) rfl (Nat.le_of_ble_eq_true rfl) (qtn_holderAt_ok _ (by omega) he16) ?_
          by_cases h17 : r14 = x4_9
          · rw [if_pos h17] at hs
            refine Rc.goL mt_1142 1 (f2 := (if r14 = x4_9 then 92 else 89, [.ref 0, .int x1_7, UU, .int x3_8, .int x4_9, .int x5_10, .int x6_11, UU, .int t12], [], gm M15)) (b := true) rfl rfl ?_
            rw [if_pos h17]
            refine Rc.goL mt_1142 2 (f2 := (25, [.ref 0, .int x1_7, UU, .int x3_8, .int x4_9, .int (x5_10 + (1 : Int32)), .int (x6_11 + (-1 : Int32)), UU, .int t12], [], gm M15)) (b := true) rfl rfl ?_
            refine Rc.less (ls2 := [.ref 0, .int x1_7, UU, .int x3_8, .int x4_9, .int (x5_10 + (1 : Int32)), .int (x6_11 + (-1 : Int32)), UU, UU]) (by refine ⟨Or.inr rfl, Or.inr rfl, Or.inl rfl, Or.inr rfl, Or.inr rfl, Or.inr rfl, Or.inr rfl, Or.inl rfl, Or.inl rfl, trivial⟩) ?_
            exact ih x1_7 x3_8 x4_9 (x5_10 + (1 : Int32)) (x6_11 + (-1 : Int32)) _ _ _ hs
          · rw [if_neg h17] at hs
            refine Rc.goL mt_1142 1 (f2 := (if r14 = x4_9 then 92 else 89, [.ref 0, .int x1_7, UU, .int x3_8, .int x4_9, .int x5_10, .int x6_11, UU, .int t12], [], gm M15)) (b := true) rfl rfl ?_
            rw [if_neg h17]
            refine Rc.less (ls2 := [UU, UU, UU, UU, UU, .int x5_10, UU, UU, UU]) (by refine ⟨Or.inl rfl, Or.inl rfl, Or.inl rfl, Or.inl rfl, Or.inl rfl, Or.inr rfl, Or.inl rfl, Or.inl rfl, Or.inl rfl, trivial⟩) ?_
            exact hk89 x5_10 _ _ _ hs
        · rw [if_neg h18] at hs
          refine Rc.goL mt_1142 2 (f2 := (if t12 = 0 then 74 else 101, [.ref 0, .int x1_7, UU, .int x3_8, .int x4_9, .int x5_10, .int x6_11, UU, .int t12], [], gm M13)) (b := true) rfl rfl ?_
          rw [if_neg h18]
          refine Rc.goL mt_1142 0 (f2 := (103, [.ref 0, .int x1_7, UU, .int x3_8, .int x4_9, .int x5_10, .int x6_11, UU, .int t12], [.int x5_10], gm M13)) (b := true) rfl rfl ?_
          obtain ⟨e1, e2⟩ := some_p hs; subst e1; subst e2
          exact Rc.ret (v := some (.int x5_10)) rfl rfl
      refine jn_e (P := fun (j : Int32 → Int32 → Int32 → Int32 → Int32 → SM → Option (Int32 × SM)) => ∀ (x1_20 : Int32) (x3_21 : Int32) (x4_22 : Int32) (x5_23 : Int32) (x6_24 : Int32) (M25 : SM) (r : Int32) (Mz : SM), j x1_20 x3_21 x4_22 x5_23 x6_24 M25 = some (r, Mz) → Rc (d + 1) 1142 (66, [.ref 0, .int x1_20, UU, .int x3_21, .int x4_22, .int x5_23, .int x6_24, UU, UU], [], gm M25) (some (.int r), gm Mz)) hs ?_ (fun j26 Hj26 hs => ?_)
      · intro x1_20 x3_21 x4_22 x5_23 x6_24 M25 r Mz hs
        try dsimp only at hs
        refine Rc.goL mt_1142 0 (f2 := (67, [.ref 0, .int x1_20, UU, .int x3_21, .int x4_22, .int x5_23, .int x6_24, UU, UU], [.int (0 : Int32)], gm M25)) (b := true) rfl rfl ?_
        refine Rc.less (ls2 := [.ref 0, .int x1_20, UU, .int x3_21, .int x4_22, .int x5_23, .int x6_24, UU, UU]) (by refine ⟨Or.inr rfl, Or.inr rfl, Or.inl rfl, Or.inr rfl, Or.inr rfl, Or.inr rfl, Or.inr rfl, Or.inl rfl, Or.inl rfl, trivial⟩) ?_
        exact Hj19 x1_20 x3_21 x4_22 x5_23 x6_24 (0 : Int32) _ _ _ hs
      by_cases h31 : r4 = (-1 : Int32)
      · rw [if_pos h31] at hs
        refine Rc.goL mt_1142 3 (f2 := (if r4 = (-1 : Int32) then 66 else 49, [.ref 0, .int x1, UU, .int x3, .int x4, .int x5, .int x6, .int r4, UU], [], gm M5)) (b := true) rfl rfl ?_
        rw [if_pos h31]
        refine Rc.less (ls2 := [.ref 0, .int x1, UU, .int x3, .int x4, .int x5, .int x6, UU, UU]) (by refine ⟨Or.inr rfl, Or.inr rfl, Or.inl rfl, Or.inr rfl, Or.inr rfl, Or.inr rfl, Or.inr rfl, Or.inl rfl, Or.inl rfl, trivial⟩) ?_
        exact Hj26 x1 x3 x4 x5 x6 _ _ _ hs
      · rw [if_neg h31] at hs
        refine Rc.goL mt_1142 3 (f2 := (if r4 = (-1 : Int32) then 66 else 49, [.ref 0, .int x1, UU, .int x3, .int x4, .int x5, .int x6, .int r4, UU], [], gm M5)) (b := true) rfl rfl ?_
        rw [if_neg h31]
        refine Rc.goL mt_1142 3 (f2 := (56, [.ref 0, .int x1, UU, .int x3, .int x4, .int x5, .int x6, .int r4, UU], [.int (3 : Int32), .int r4, .ref 210], gm M5)) (b := true) rfl rfl ?_
        obtain ⟨r27, M28, he29, hs⟩ := ob_some hs
        refine Rc.callV (i := 265) (mid' := 205) (av := [.int r4, .int (3 : Int32)]) (rest := []) (v := some (.int r27)) (M1 := gm M28) (a := 210) rfl rfl rfl cw_205 rfl (Nat.le_of_ble_eq_true rfl) rfl (Nat.le_of_ble_eq_true rfl) (qen_at_ok _ (by omega) he29) ?_
        by_cases h30 : 0 < r27
        · rw [if_pos h30] at hs
          refine Rc.goL mt_1142 0 (f2 := (if 0 < r27 then 62 else 66, [.ref 0, .int x1, UU, .int x3, .int x4, .int x5, .int x6, .int r4, UU], [], gm M28)) (b := true) rfl rfl ?_
          rw [if_pos h30]
          refine Rc.goL mt_1142 1 (f2 := (67, [.ref 0, .int x1, UU, .int x3, .int x4, .int x5, .int x6, .int r4, UU], [.int (1 : Int32)], gm M28)) (b := true) rfl rfl ?_
          refine Rc.less (ls2 := [.ref 0, .int x1, UU, .int x3, .int x4, .int x5, .int x6, UU, UU]) (by refine ⟨Or.inr rfl, Or.inr rfl, Or.inl rfl, Or.inr rfl, Or.inr rfl, Or.inr rfl, Or.inr rfl, Or.inl rfl, Or.inl rfl, trivial⟩) ?_
          exact Hj19 x1 x3 x4 x5 x6 (1 : Int32) _ _ _ hs
        · rw [if_neg h30] at hs
          refine Rc.goL mt_1142 0 (f2 := (if 0 < r27 then 62 else 66, [.ref 0, .int x1, UU, .int x3, .int x4, .int x5, .int x6, .int r4, UU], [], gm M28)) (b := true) rfl rfl ?_
          rw [if_neg h30]
          refine Rc.less (ls2 := [.ref 0, .int x1, UU, .int x3, .int x4, .int x5, .int x6, UU, UU]) (by refine ⟨Or.inr rfl, Or.inr rfl, Or.inl rfl, Or.inr rfl, Or.inr rfl, Or.inr rfl, Or.inr rfl, Or.inl rfl, Or.inl rfl, trivial⟩) ?_
          exact Hj26 x1 x3 x4 x5 x6 _ _ _ hs
set_option maxRecDepth 20000 in
theorem qfr_idleWeeks_ok (d : Nat) (hd : 4 ≤ d) {x1 : Int32} {x2 : Int32} {x3 : Int32} {M : SM} {r : Int32} {Mz : SM} (hs : qfr_idleWeeks x1 x2 x3 M = some (r, Mz)) : Ex d 1142 [.ref 0, .int x1, .int x2, .int x3] (gm M) (some (.int r), gm Mz) := by
  obtain ⟨d, rfl⟩ : ∃ d0, d = d0 + 1 := ⟨d - 1, by omega⟩
  refine Ex.of okm_1142 (by omega) (Nat.le_of_ble_eq_true rfl) ?_
  show Rc (d + 1) 1142 (0, [.ref 0, .int x1, .int x2, .int x3, UU, UU, UU, UU, UU], [], gm M) _
  unfold qfr_idleWeeks at hs
  refine Rc.goL mt_1142 3 (f2 := (6, [.ref 0, .int x1, .int x2, .int x3, UU, UU, UU, UU, UU], [.int x2, .int x1, .ref 179], gm M)) (b := true) rfl rfl ?_
  obtain ⟨r1, M2, he3, hs⟩ := ob_some hs
  refine Rc.callV (i := 119) (mid' := 1014) (av := [.int x1, .int x2]) (rest := []) (v := some (.int r1)) (M1 := gm M2) (a := 179) rfl rfl rfl cw_1014 rfl (Nat.le_of_ble_eq_true rfl) rfl (Nat.le_of_ble_eq_true rfl) (qtn_holderAt_ok _ (by omega) he3) ?_
  by_cases h35 : r1 = (-1 : Int32)
  · rw [if_pos h35] at hs
    refine Rc.goL mt_1142 3 (f2 := (if r1 = (-1 : Int32) then 17 else 19, [.ref 0, .int x1, .int x2, .int x3, .int r1, UU, UU, UU, UU], [], gm M2)) (b := true) rfl rfl ?_
    rw [if_pos h35]
    refine Rc.goL mt_1142 0 (f2 := (18, [.ref 0, .int x1, .int x2, .int x3, .int r1, UU, UU, UU, UU], [.int (0 : Int32)], gm M2)) (b := true) rfl rfl ?_
    obtain ⟨e1, e2⟩ := some_p hs; subst e1; subst e2
    exact Rc.ret (v := some (.int (0 : Int32))) rfl rfl
  · rw [if_neg h35] at hs
    refine Rc.goL mt_1142 3 (f2 := (if r1 = (-1 : Int32) then 17 else 19, [.ref 0, .int x1, .int x2, .int x3, .int r1, UU, UU, UU, UU], [], gm M2)) (b := true) rfl rfl ?_
    rw [if_neg h35]
    refine Rc.goL mt_1142 3 (f2 := (25, [.ref 0, .int x1, .int x2, .int x3, .int r1, .int (0 : Int32), .int x2, UU, UU], [], gm M2)) (b := true) rfl rfl ?_
    refine Rc.less (ls2 := [.ref 0, .int x1, UU, .int x3, .int r1, .int (0 : Int32), .int x2, UU, UU]) (by refine ⟨Or.inr rfl, Or.inr rfl, Or.inl rfl, Or.inr rfl, Or.inr rfl, Or.inr rfl, Or.inr rfl, Or.inl rfl, Or.inl rfl, trivial⟩) ?_
    refine qfr_idleWeeks_L25_ok d hd _ (fun y5_33 M34 r Mz hs => ?_) _ x1 x3 r1 (0 : Int32) x2 _ _ _ hs
    · refine Rc.goL mt_1142 0 (f2 := (101, [UU, UU, UU, UU, UU, .int y5_33, UU, UU, UU], [], gm M34)) (b := true) rfl rfl ?_
      refine Rc.goL mt_1142 0 (f2 := (103, [UU, UU, UU, UU, UU, .int y5_33, UU, UU, UU], [.int y5_33], gm M34)) (b := true) rfl rfl ?_
      obtain ⟨e1, e2⟩ := some_p hs; subst e1; subst e2
      exact Rc.ret (v := some (.int y5_33)) rfl rfl
