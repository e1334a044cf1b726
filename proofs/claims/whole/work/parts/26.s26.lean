def qrd_readList_L12 (k49 : SM → Option (Int32 × SM)) : Nat → Int32 → SM → Option (Int32 × SM)
  | 0, _, _ => none
  | n + 1, x3, M =>
    if x3 < (M.1 3 2) then
    (ob (qrd_next M) (fun r7 M8 =>
      if r7 = (59 : Int32) then
      (ob (qrd_formula (wI M8 3 3 ((M8.1 3 3) + (1 : Int32)))) (fun _ M10 =>
        qrd_readList_L12 k49 n (x3 + (1 : Int32)) M10)) else
      (k49 M8))) else
    (k49 M)
def qrd_readList (x1 : Nat) (x2 : Int32) (M : SM) : Option (Int32 × SM) :=
  ob (qrd_start x1 x2 M) (fun _ M1 =>
  ob (qrd_formula M1) (fun _ M4 =>
  qrd_readList_L12 (fun M15 =>
  ob (qrd_expectEnd M15) (fun _ M16 =>
    jn (fun (M19 : SM) =>
      ob (qrd_answer M19) (fun r20 M21 =>
        some (r20, M21))) (fun j23 =>
    if (M16.1 3 4) = 0 then
    (ob (qrd_findRing M16) (fun _ M24 =>
      j23 M24)) else
    (j23 M16)))) FU (0 : Int32) M4))
theorem mt_701 : MT 701 K_701 LN_7 := ⟨rfl, rfl, by decide +kernel⟩
theorem okm_701 : OKm 701 := ⟨⟨vE_701, okL_7, by decide +kernel⟩, by decide +kernel, by decide +kernel, by decide +kernel⟩
set_option maxRecDepth 20000 in
theorem qrd_readList_L12_ok (d : Nat) (hd : 102 ≤ d + 1) (k49 : SM → Option (Int32 × SM)) (hk49 : ∀ (M : SM) (r : Int32) (Mz : SM), k49 M = some (r, Mz) → Rc (d + 1) 701 (49, [.ref 3, UU, UU, UU], [], gm M) (some (.int r), gm Mz)) : ∀ (n : Nat) (x3 : Int32) (M : SM) (r : Int32) (Mz : SM), qrd_readList_L12 k49 n x3 M = some (r, Mz) → Rc (d + 1) 701 (12, [.ref 3, UU, UU, .int x3], [], gm M) (some (.int r), gm Mz) := by
  intro n
  induction n with
  | zero => intro x3 M r Mz hs; cases hs
  | succ n ih =>
    intro x3 M r Mz hs
    rw [qrd_readList_L12] at hs
    by_cases h14 : x3 < (M.1 3 2)
    · rw [if_pos h14] at hs
      refine Rc.goL mt_701 3 (f2 := (if x3 < (M.1 3 2) then 20 else 49, [.ref 3, UU, UU, .int x3], [], gm M)) (b := true) rfl rfl ?_
      rw [if_pos h14]
      refine Rc.goL mt_701 0 (f2 := (21, [.ref 3, UU, UU, .int x3], [.ref 3], gm M)) (b := true) rfl rfl ?_
      obtain ⟨r7, M8, he9, hs⟩ := ob_some hs
      refine Rc.callV (i := 35) (mid' := 705) (av := []) (rest := []) (v := some (.int r7)) (M1 := gm M8) (a := 3) rfl rfl rfl cw_705 rfl (Nat.le_of_ble_eq_true rfl) rfl (Nat.le_of_ble_eq_true rfl) (qrd_next_ok _ (by omega) he9) ?_
      by_cases h13 : r7 = (59 : Int32)
      · rw [if_pos h13] at hs
        refine Rc.goL mt_701 1 (f2 := (if r7 = (59 : Int32) then 29 else 49, [.ref 3, UU, UU, .int x3], [], gm M8)) (b := true) rfl rfl ?_
        rw [if_pos h13]
        refine Rc.goL mt_701 5 (f2 := (39, [.ref 3, UU, UU, .int x3], [], gm (wI M8 3 3 ((M8.1 3 3) + (1 : Int32))))) (b := true) rfl rfl ?_
        refine Rc.goL mt_701 0 (f2 := (40, [.ref 3, UU, UU, .int x3], [.ref 3], gm (wI M8 3 3 ((M8.1 3 3) + (1 : Int32))))) (b := true) rfl rfl ?_
        obtain ⟨u12, M10, he11, hs⟩ := ob_some hs
        refine Rc.callV (i := 28) (mid' := 710) (av := []) (rest := []) (v := none) (M1 := gm M10) (a := 3) rfl rfl rfl cw_710 rfl (Nat.le_of_ble_eq_true rfl) rfl (Nat.le_of_ble_eq_true rfl) (qrd_formula_ok _ (by omega) he11) ?_
        refine Rc.goL mt_701 1 (f2 := (12, [.ref 3, UU, UU, .int (x3 + (1 : Int32))], [], gm M10)) (b := true) rfl rfl ?_
        refine Rc.less (ls2 := [.ref 3, UU, UU, .int (x3 + (1 : Int32))]) (by refine ⟨Or.inr rfl, Or.inl rfl, Or.inl rfl, Or.inr rfl, trivial⟩) ?_
        exact ih (x3 + (1 : Int32)) _ _ _ hs
      · rw [if_neg h13] at hs
        refine Rc.goL mt_701 1 (f2 := (if r7 = (59 : Int32) then 29 else 49, [.ref 3, UU, UU, .int x3], [], gm M8)) (b := true) rfl rfl ?_
        rw [if_neg h13]
        refine Rc.less (ls2 := [.ref 3, UU, UU, UU]) (by refine ⟨Or.inr rfl, Or.inl rfl, Or.inl rfl, Or.inl rfl, trivial⟩) ?_
        exact hk49 _ _ _ hs
    · rw [if_neg h14] at hs
      refine Rc.goL mt_701 3 (f2 := (if x3 < (M.1 3 2) then 20 else 49, [.ref 3, UU, UU, .int x3], [], gm M)) (b := true) rfl rfl ?_
      rw [if_neg h14]
      refine Rc.less (ls2 := [.ref 3, UU, UU, UU]) (by refine ⟨Or.inr rfl, Or.inl rfl, Or.inl rfl, Or.inl rfl, trivial⟩) ?_
      exact hk49 _ _ _ hs
set_option maxRecDepth 20000 in
theorem qrd_readList_ok (d : Nat) (hd : 102 ≤ d) {x1 : Nat} {x2 : Int32} {M : SM} {r : Int32} {Mz : SM} (hs : qrd_readList x1 x2 M = some (r, Mz)) : Ex d 701 [.ref 3, .ref x1, .int x2] (gm M) (some (.int r), gm Mz) := by
  obtain ⟨d, rfl⟩ : ∃ d0, d = d0 + 1 := ⟨d - 1, by omega⟩
  refine Ex.of okm_701 (by omega) (Nat.le_of_ble_eq_true rfl) ?_
  show Rc (d + 1) 701 (0, [.ref 3, .ref x1, .int x2, UU], [], gm M) _
  unfold qrd_readList at hs
  refine Rc.goL mt_701 2 (f2 := (3, [.ref 3, .ref x1, .int x2, UU], [.int x2, .ref x1, .ref 3], gm M)) (b := true) rfl rfl ?_
  obtain ⟨u3, M1, he2, hs⟩ := ob_some hs
  refine Rc.callV (i := 24) (mid' := 703) (av := [.ref x1, .int x2]) (rest := []) (v := none) (M1 := gm M1) (a := 3) rfl rfl rfl cw_703 rfl (Nat.le_of_ble_eq_true rfl) rfl (Nat.le_of_ble_eq_true rfl) (qrd_start_ok _ (by omega) he2) ?_
  refine Rc.goL mt_701 0 (f2 := (7, [.ref 3, .ref x1, .int x2, UU], [.ref 3], gm M1)) (b := true) rfl rfl ?_
  obtain ⟨u6, M4, he5, hs⟩ := ob_some hs
  refine Rc.callV (i := 28) (mid' := 710) (av := []) (rest := []) (v := none) (M1 := gm M4) (a := 3) rfl rfl rfl cw_710 rfl (Nat.le_of_ble_eq_true rfl) rfl (Nat.le_of_ble_eq_true rfl) (qrd_formula_ok _ (by omega) he5) ?_
  refine Rc.goL mt_701 1 (f2 := (12, [.ref 3, .ref x1, .int x2, .int (0 : Int32)], [], gm M4)) (b := true) rfl rfl ?_
  refine Rc.less (ls2 := [.ref 3, UU, UU, .int (0 : Int32)]) (by refine ⟨Or.inr rfl, Or.inl rfl, Or.inl rfl, Or.inr rfl, trivial⟩) ?_
  refine qrd_readList_L12_ok d hd _ (fun M15 r Mz hs => ?_) _ (0 : Int32) _ _ _ hs
  · refine Rc.goL mt_701 0 (f2 := (50, [.ref 3, UU, UU, UU], [.ref 3], gm M15)) (b := true) rfl rfl ?_
    obtain ⟨u18, M16, he17, hs⟩ := ob_some hs
    refine Rc.callV (i := 42) (mid' := 708) (av := []) (rest := []) (v := none) (M1 := gm M16) (a := 3) rfl rfl rfl cw_708 rfl (Nat.le_of_ble_eq_true rfl) rfl (Nat.le_of_ble_eq_true rfl) (qrd_expectEnd_ok _ (by omega) he17) ?_
    refine jn_e (P := fun (j : SM → Option (Int32 × SM)) => ∀ (M19 : SM) (r : Int32) (Mz : SM), j M19 = some (r, Mz) → Rc (d + 1) 701 (64, [.ref 3, UU, UU, UU], [], gm M19) (some (.int r), gm Mz)) hs ?_ (fun j23 Hj23 hs => ?_)
    · intro  M19 r Mz hs
      try dsimp only at hs
      refine Rc.goL mt_701 0 (f2 := (65, [.ref 3, UU, UU, UU], [.ref 3], gm M19)) (b := true) rfl rfl ?_
      obtain ⟨r20, M21, he22, hs⟩ := ob_some hs
      refine Rc.callV (i := 51) (mid' := 704) (av := []) (rest := []) (v := some (.int r20)) (M1 := gm M21) (a := 3) rfl rfl rfl cw_704 rfl (Nat.le_of_ble_eq_true rfl) rfl (Nat.le_of_ble_eq_true rfl) (qrd_answer_ok _ (by omega) he22) ?_
      obtain ⟨e1, e2⟩ := some_p hs; subst e1; subst e2
      exact Rc.ret (v := some (.int r20)) rfl rfl
    by_cases h27 : (M16.1 3 4) = 0
    · rw [if_pos h27] at hs
      refine Rc.goL mt_701 2 (f2 := (if (M16.1 3 4) = 0 then 60 else 64, [.ref 3, UU, UU, UU], [], gm M16)) (b := true) rfl rfl ?_
      rw [if_pos h27]
      refine Rc.goL mt_701 0 (f2 := (61, [.ref 3, UU, UU, UU], [.ref 3], gm M16)) (b := true) rfl rfl ?_
      obtain ⟨u26, M24, he25, hs⟩ := ob_some hs
      refine Rc.callV (i := 48) (mid' := 709) (av := []) (rest := []) (v := none) (M1 := gm M24) (a := 3) rfl rfl rfl cw_709 rfl (Nat.le_of_ble_eq_true rfl) rfl (Nat.le_of_ble_eq_true rfl) (qrd_findRing_ok _ (by omega) he25) ?_
      refine Rc.less (ls2 := [.ref 3, UU, UU, UU]) (by refine ⟨Or.inr rfl, Or.inl rfl, Or.inl rfl, Or.inl rfl, trivial⟩) ?_
      exact Hj23 _ _ _ hs
    · rw [if_neg h27] at hs
      refine Rc.goL mt_701 2 (f2 := (if (M16.1 3 4) = 0 then 60 else 64, [.ref 3, UU, UU, UU], [], gm M16)) (b := true) rfl rfl ?_
      rw [if_neg h27]
      refine Rc.less (ls2 := [.ref 3, UU, UU, UU]) (by refine ⟨Or.inr rfl, Or.inl rfl, Or.inl rfl, Or.inl rfl, trivial⟩) ?_
      exact Hj23 _ _ _ hs
def qrd_readAct (x1 : Nat) (x2 : Int32) (M : SM) : Option (Int32 × SM) :=
  ob (qrd_start x1 x2 M) (fun _ M1 =>
  ob (qrd_next M1) (fun r4 M5 =>
  jn (fun (M7 : SM) =>
    ob (qrd_next M7) (fun r8 M9 =>
      jn (fun (t11 : Int32) (M12 : SM) =>
        jn (fun (x4_13 : Int32) (M14 : SM) =>
            ck (decide (¬ (M14.1 3 1) < 0) && ((kc 336 (Int32.toNatClampNeg (M14.1 3 1)) 8 && (decide (x4_13 = 0) || decide (x4_13 = 1))) && true)) (
              ob ((qrd_chN 10) (0 : Int32) (wI M14 (Int32.toNatClampNeg (M14.1 3 1)) 11 x4_13)) (fun _ M16 =>
              ck (decide (¬ (M16.1 3 1) < 0) && true) (
              ck (kc 336 (Int32.toNatClampNeg (M16.1 3 1)) 8) (ob (qsh_end (Int32.toNatClampNeg (M16.1 3 1)) M16) (fun _ M21 =>
              ob (qrd_expectEnd M21) (fun _ M24 =>
              ob (qrd_answer M24) (fun r27 M28 =>
              some (r27, M28))))))))) (fun j30 =>
          jn (fun (x4_31 : Int32) (M32 : SM) =>
            j30 x4_31 (wI M32 3 3 ((M32.1 3 3) + (1 : Int32)))) (fun j33 =>
          if t11 = 0 then
          (ob (qrd_next M12) (fun r34 M35 =>
            if r34 = (95 : Int32) then
            (j33 t11 M35) else
            (ob (qrd_fail (1 : Int32) M35) (fun _ M37 =>
              j30 t11 M37)))) else
          (j33 t11 M12)))) (fun j42 =>
      if r8 = (94 : Int32) then
      (j42 (1 : Int32) M9) else
      (j42 (0 : Int32) M9)))) (fun j44 =>
  jn (fun (x3_45 : Int32) (M46 : SM) =>
    ck (decide (¬ (M46.1 3 1) < 0) && true) (
      ck (kc 336 (Int32.toNatClampNeg (M46.1 3 1)) 8) (ob (qsh_begin (Int32.toNatClampNeg (M46.1 3 1)) (x3_45 - (65 : Int32)) (M46.1 3 3) M46) (fun _ M49 =>
      j44 (wI M49 3 3 ((M49.1 3 3) + (1 : Int32))))))) (fun j52 =>
  if r4 = (87 : Int32) then
  (j52 r4 M5) else
  (if r4 = (82 : Int32) then
    (j52 r4 M5) else
    (if r4 = (67 : Int32) then
      (j52 r4 M5) else
      (if r4 = (84 : Int32) then
        (j52 r4 M5) else
        (ob (qrd_fail (1 : Int32) M5) (fun _ M53 =>
          j44 M53)))))))))
theorem mt_702 : MT 702 K_702 LN_7 := ⟨rfl, rfl, by decide +kernel⟩
theorem okm_702 : OKm 702 := ⟨⟨vE_702, okL_7, by decide +kernel⟩, by decide +kernel, by decide +kernel, by decide +kernel⟩
set_option maxRecDepth 20000 in
theorem qrd_readAct_ok (d : Nat) (hd : 101 ≤ d) {x1 : Nat} {x2 : Int32} {M : SM} {r : Int32} {Mz : SM} (hs : qrd_readAct x1 x2 M = some (r, Mz)) : Ex d 702 [.ref 3, .ref x1, .int x2] (gm M) (some (.int r), gm Mz) := by
  obtain ⟨d, rfl⟩ : ∃ d0, d = d0 + 1 := ⟨d - 1, by omega⟩
  refine Ex.of okm_702 (by omega) (Nat.le_of_ble_eq_true rfl) ?_
  show Rc (d + 1) 702 (0, [.ref 3, .ref x1, .int x2, UU, UU], [], gm M) _
  unfold qrd_readAct at hs
  refine Rc.goL mt_702 2 (f2 := (3, [.ref 3, .ref x1, .int x2, UU, UU], [.int x2, .ref x1, .ref 3], gm M)) (b := true) rfl rfl ?_
  obtain ⟨u3, M1, he2, hs⟩ := ob_some hs
  refine Rc.callV (i := 24) (mid' := 703) (av := [.ref x1, .int x2]) (rest := []) (v := none) (M1 := gm M1) (a := 3) rfl rfl rfl cw_703 rfl (Nat.le_of_ble_eq_true rfl) rfl (Nat.le_of_ble_eq_true rfl) (qrd_start_ok _ (by omega) he2) ?_
  refine Rc.goL mt_702 0 (f2 := (7, [.ref 3, .ref x1, .int x2, UU, UU], [.ref 3], gm M1)) (b := true) rfl rfl ?_
  obtain ⟨r4, M5, he6, hs⟩ := ob_some hs
  refine Rc.callV (i := 35) (mid' := 705) (av := []) (rest := []) (v := some (.int r4)) (M1 := gm M5) (a := 3) rfl rfl rfl cw_705 rfl (Nat.le_of_ble_eq_true rfl) rfl (Nat.le_of_ble_eq_true rfl) (qrd_next_ok _ (by omega) he6) ?_
  refine jn_e (P := fun (j : SM → Option (Int32 × SM)) => ∀ (M7 : SM) (r : Int32) (Mz : SM), j M7 = some (r, Mz) → Rc (d + 1) 702 (68, [.ref 3, UU, UU, UU, UU], [], gm M7) (some (.int r), gm Mz)) hs ?_ (fun j44 Hj44 hs => ?_)
  · intro  M7 r Mz hs
    try dsimp only at hs
    refine Rc.goL mt_702 0 (f2 := (69, [.ref 3, UU, UU, UU, UU], [.ref 3], gm M7)) (b := true) rfl rfl ?_
    obtain ⟨r8, M9, he10, hs⟩ := ob_some hs
    refine Rc.callV (i := 35) (mid' := 705) (av := []) (rest := []) (v := some (.int r8)) (M1 := gm M9) (a := 3) rfl rfl rfl cw_705 rfl (Nat.le_of_ble_eq_true rfl) rfl (Nat.le_of_ble_eq_true rfl) (qrd_next_ok _ (by omega) he10) ?_
    refine jn_e (P := fun (j : Int32 → SM → Option (Int32 × SM)) => ∀ (t11 : Int32) (M12 : SM) (r : Int32) (Mz : SM), j t11 M12 = some (r, Mz) → Rc (d + 1) 702 (82, [.ref 3, UU, UU, UU, UU], [.int t11], gm M12) (some (.int r), gm Mz)) hs ?_ (fun j42 Hj42 hs => ?_)
    · intro t11 M12 r Mz hs
      try dsimp only at hs
      refine jn_e (P := fun (j : Int32 → SM → Option (Int32 × SM)) => ∀ (x4_13 : Int32) (M14 : SM) (r : Int32) (Mz : SM), j x4_13 M14 = some (r, Mz) → Rc (d + 1) 702 (116, [.ref 3, UU, UU, UU, .int x4_13], [], gm M14) (some (.int r), gm Mz)) hs ?_ (fun j30 Hj30 hs => ?_)
      · intro x4_13 M14 r Mz hs
        try dsimp only at hs
        obtain ⟨hb15, hs⟩ := ck_some hs
        obtain ⟨hb15_0, hb15⟩ := and_t hb15
        obtain ⟨hb15_1, hb15⟩ := and_t hb15
        refine Rc.goL mt_702 3 (f2 := (125, [.ref 3, UU, UU, UU, .int x4_13], [], gm (wI M14 (Int32.toNatClampNeg (M14.1 3 1)) 11 x4_13))) (b := (decide (¬ (M14.1 3 1) < 0) && ((kc 336 (Int32.toNatClampNeg (M14.1 3 1)) 8 && (decide (x4_13 = 0) || decide (x4_13 = 1))) && true))) rfl (and_i hb15_0 (and_i hb15_1 rfl)) ?_
        refine Rc.goL mt_702 1 (f2 := (127, [.ref 3, UU, UU, UU, .int x4_13], [.int (0 : Int32), .ref 3], gm (wI M14 (Int32.toNatClampNeg (M14.1 3 1)) 11 x4_13))) (b := true) rfl rfl ?_
        obtain ⟨u18, M16, he17, hs⟩ := ob_some hs
        refine Rc.callV (i := 65) (mid' := 711) (av := [.int (0 : Int32)]) (rest := []) (v := none) (M1 := gm M16) (a := 3) rfl rfl rfl cw_711 rfl (Nat.le_of_ble_eq_true rfl) rfl (Nat.le_of_ble_eq_true rfl) (qrd_chN_ok 10 _ (by omega) he17) ?_
        obtain ⟨hb19, hs⟩ := ck_some hs
        refine Rc.goL mt_702 1 (f2 := (134, [.ref 3, UU, UU, UU, .int x4_13], [.ref (Int32.toNatClampNeg (M16.1 3 1))], gm M16)) (b := (decide (¬ (M16.1 3 1) < 0) && true)) rfl hb19 ?_
        obtain ⟨hk20, hs⟩ := ck_some hs
        obtain ⟨u23, M21, he22, hs⟩ := ob_some hs
        refine Rc.callV (i := 68) (mid' := 805) (av := []) (rest := []) (v := none) (M1 := gm M21) (a := (Int32.toNatClampNeg (M16.1 3 1))) rfl rfl rfl cw_805 hk20 (Nat.le_of_ble_eq_true rfl) rfl (Nat.le_of_ble_eq_true rfl) (qsh_end_ok _ (by omega) he22) ?_
        refine Rc.goL mt_702 0 (f2 := (138, [.ref 3, UU, UU, UU, .int x4_13], [.ref 3], gm M21)) (b := true) rfl rfl ?_
        obtain ⟨u26, M24, he25, hs⟩ := ob_some hs
        refine Rc.callV (i := 42) (mid' := 708) (av := []) (rest := []) (v := none) (M1 := gm M24) (a := 3) rfl rfl rfl cw_708 rfl (Nat.le_of_ble_eq_true rfl) rfl (Nat.le_of_ble_eq_true rfl) (qrd_expectEnd_ok _ (by omega) he25) ?_
        refine Rc.goL mt_702 0 (f2 := (142, [.ref 3, UU, UU, UU, .int x4_13], [.ref 3], gm M24)) (b := true) rfl rfl ?_
        obtain ⟨r27, M28, he29, hs⟩ := ob_some hs
        refine Rc.callV (i := 51) (mid' := 704) (av := []) (rest := []) (v := some (.int r27)) (M1 := gm M28) (a := 3) rfl rfl rfl cw_704 rfl (Nat.le_of_ble_eq_true rfl) rfl (Nat.le_of_ble_eq_true rfl) (qrd_answer_ok _ (by omega) he29) ?_
        obtain ⟨e1, e2⟩ := some_p hs; subst e1; subst e2
        exact Rc.ret (v := some (.int r27)) rfl rfl
      refine jn_e (P := fun (j : Int32 → SM → Option (Int32 × SM)) => ∀ (x4_31 : Int32) (M32 : SM) (r : Int32) (Mz : SM), j x4_31 M32 = some (r, Mz) → Rc (d + 1) 702 (98, [.ref 3, UU, UU, UU, .int x4_31], [], gm M32) (some (.int r), gm Mz)) hs ?_ (fun j33 Hj33 hs => ?_)
      · intro x4_31 M32 r Mz hs
        try dsimp only at hs
        refine Rc.goL mt_702 5 (f2 := (108, [.ref 3, UU, UU, UU, .int x4_31], [], gm (wI M32 3 3 ((M32.1 3 3) + (1 : Int32))))) (b := true) rfl rfl ?_
        refine Rc.goL mt_702 0 (f2 := (116, [.ref 3, UU, UU, UU, .int x4_31], [], gm (wI M32 3 3 ((M32.1 3 3) + (1 : Int32))))) (b := true) rfl rfl ?_
        refine Rc.less (ls2 := [.ref 3, UU, UU, UU, .int x4_31]) (by refine ⟨Or.inr rfl, Or.inl rfl, Or.inl rfl, Or.inl rfl, Or.inr rfl, trivial⟩) ?_
        exact Hj30 x4_31 _ _ _ hs
      by_cases h41 : t11 = 0
      · rw [if_pos h41] at hs
        refine Rc.goL mt_702 2 (f2 := (if t11 = 0 then 89 else 98, [.ref 3, UU, UU, UU, .int t11], [], gm M12)) (b := true) rfl rfl ?_
        rw [if_pos h41]
        refine Rc.goL mt_702 0 (f2 := (90, [.ref 3, UU, UU, UU, .int t11], [.ref 3], gm M12)) (b := true) rfl rfl ?_
        obtain ⟨r34, M35, he36, hs⟩ := ob_some hs
        refine Rc.callV (i := 35) (mid' := 705) (av := []) (rest := []) (v := some (.int r34)) (M1 := gm M35) (a := 3) rfl rfl rfl cw_705 rfl (Nat.le_of_ble_eq_true rfl) rfl (Nat.le_of_ble_eq_true rfl) (qrd_next_ok _ (by omega) he36) ?_
        by_cases h40 : r34 = (95 : Int32)
        · rw [if_pos h40] at hs
          refine Rc.goL mt_702 1 (f2 := (if r34 = (95 : Int32) then 98 else 111, [.ref 3, UU, UU, UU, .int t11], [], gm M35)) (b := true) rfl rfl ?_
          rw [if_pos h40]
          refine Rc.less (ls2 := [.ref 3, UU, UU, UU, .int t11]) (by refine ⟨Or.inr rfl, Or.inl rfl, Or.inl rfl, Or.inl rfl, Or.inr rfl, trivial⟩) ?_
          exact Hj33 t11 _ _ _ hs
        · rw [if_neg h40] at hs
          refine Rc.goL mt_702 1 (f2 := (if r34 = (95 : Int32) then 98 else 111, [.ref 3, UU, UU, UU, .int t11], [], gm M35)) (b := true) rfl rfl ?_
          rw [if_neg h40]
          refine Rc.goL mt_702 1 (f2 := (113, [.ref 3, UU, UU, UU, .int t11], [.int (1 : Int32), .ref 3], gm M35)) (b := true) rfl rfl ?_
          obtain ⟨u39, M37, he38, hs⟩ := ob_some hs
          refine Rc.callV (i := 58) (mid' := 706) (av := [.int (1 : Int32)]) (rest := []) (v := none) (M1 := gm M37) (a := 3) rfl rfl rfl cw_706 rfl (Nat.le_of_ble_eq_true rfl) rfl (Nat.le_of_ble_eq_true rfl) (qrd_fail_ok _ (by omega) he38) ?_
          refine Rc.less (ls2 := [.ref 3, UU, UU, UU, .int t11]) (by refine ⟨Or.inr rfl, Or.inl rfl, Or.inl rfl, Or.inl rfl, Or.inr rfl, trivial⟩) ?_
          exact Hj30 t11 _ _ _ hs
      · rw [if_neg h41] at hs
        refine Rc.goL mt_702 2 (f2 := (if t11 = 0 then 89 else 98, [.ref 3, UU, UU, UU, .int t11], [], gm M12)) (b := true) rfl rfl ?_
        rw [if_neg h41]
        refine Rc.less (ls2 := [.ref 3, UU, UU, UU, .int t11]) (by refine ⟨Or.inr rfl, Or.inl rfl, Or.inl rfl, Or.inl rfl, Or.inr rfl, trivial⟩) ?_
        exact Hj33 t11 _ _ _ hs
    by_cases h43 : r8 = (94 : Int32)
    · rw [if_pos h43] at hs
      refine Rc.goL mt_702 1 (f2 := (if r8 = (94 : Int32) then 77 else 81, [.ref 3, UU, UU, UU, UU], [], gm M9)) (b := true) rfl rfl ?_
      rw [if_pos h43]
      refine Rc.goL mt_702 1 (f2 := (82, [.ref 3, UU, UU, UU, UU], [.int (1 : Int32)], gm M9)) (b := true) rfl rfl ?_
      refine Rc.less (ls2 := [.ref 3, UU, UU, UU, UU]) (by refine ⟨Or.inr rfl, Or.inl rfl, Or.inl rfl, Or.inl rfl, Or.inl rfl, trivial⟩) ?_
      exact Hj42 (1 : Int32) _ _ _ hs
    · rw [if_neg h43] at hs
      refine Rc.goL mt_702 1 (f2 := (if r8 = (94 : Int32) then 77 else 81, [.ref 3, UU, UU, UU, UU], [], gm M9)) (b := true) rfl rfl ?_
      rw [if_neg h43]
      refine Rc.goL mt_702 0 (f2 := (82, [.ref 3, UU, UU, UU, UU], [.int (0 : Int32)], gm M9)) (b := true) rfl rfl ?_
      refine Rc.less (ls2 := [.ref 3, UU, UU, UU, UU]) (by refine ⟨Or.inr rfl, Or.inl rfl, Or.inl rfl, Or.inl rfl, Or.inl rfl, trivial⟩) ?_
      exact Hj42 (0 : Int32) _ _ _ hs
  refine jn_e (P := fun (j : Int32 → SM → Option (Int32 × SM)) => ∀ (x3_45 : Int32) (M46 : SM) (r : Int32) (Mz : SM), j x3_45 M46 = some (r, Mz) → Rc (d + 1) 702 (35, [.ref 3, UU, UU, .int x3_45, UU], [], gm M46) (some (.int r), gm Mz)) hs ?_ (fun j52 Hj52 hs => ?_)
  · intro x3_45 M46 r Mz hs
    try dsimp only at hs
    obtain ⟨hb47, hs⟩ := ck_some hs
    obtain ⟨hb47_0, hb47⟩ := and_t hb47
    refine Rc.goL mt_702 6 (f2 := (47, [.ref 3, UU, UU, .int x3_45, UU], [.int (M46.1 3 3), .int (x3_45 - (65 : Int32)), .ref (Int32.toNatClampNeg (M46.1 3 1))], gm M46)) (b := (decide (¬ (M46.1 3 1) < 0) && true)) rfl (and_i hb47_0 rfl) ?_
    obtain ⟨hk48, hs⟩ := ck_some hs
    obtain ⟨u51, M49, he50, hs⟩ := ob_some hs
    refine Rc.callV (i := 54) (mid' := 803) (av := [.int (x3_45 - (65 : Int32)), .int (M46.1 3 3)]) (rest := []) (v := none) (M1 := gm M49) (a := (Int32.toNatClampNeg (M46.1 3 1))) rfl rfl rfl cw_803 hk48 (Nat.le_of_ble_eq_true rfl) rfl (Nat.le_of_ble_eq_true rfl) (qsh_begin_ok _ (by omega) he50) ?_
    refine Rc.goL mt_702 5 (f2 := (60, [.ref 3, UU, UU, .int x3_45, UU], [], gm (wI M49 3 3 ((M49.1 3 3) + (1 : Int32))))) (b := true) rfl rfl ?_
    refine Rc.goL mt_702 0 (f2 := (68, [.ref 3, UU, UU, .int x3_45, UU], [], gm (wI M49 3 3 ((M49.1 3 3) + (1 : Int32))))) (b := true) rfl rfl ?_
    refine Rc.less (ls2 := [.ref 3, UU, UU, UU, UU]) (by refine ⟨Or.inr rfl, Or.inl rfl, Or.inl rfl, Or.inl rfl, Or.inl rfl, trivial⟩) ?_
    exact Hj44 _ _ _ hs
  by_cases h59 : r4 = (87 : Int32)
  · rw [if_pos h59] at hs
    refine Rc.goL mt_702 3 (f2 := (if r4 = (87 : Int32) then 35 else 17, [.ref 3, .ref x1, .int x2, .int r4, UU], [], gm M5)) (b := true) rfl rfl ?_
    rw [if_pos h59]
    refine Rc.less (ls2 := [.ref 3, UU, UU, .int r4, UU]) (by refine ⟨Or.inr rfl, Or.inl rfl, Or.inl rfl, Or.inr rfl, Or.inl rfl, trivial⟩) ?_
    exact Hj52 r4 _ _ _ hs
  · rw [if_neg h59] at hs
    refine Rc.goL mt_702 3 (f2 := (if r4 = (87 : Int32) then 35 else 17, [.ref 3, .ref x1, .int x2, .int r4, UU], [], gm M5)) (b := true) rfl rfl ?_
    rw [if_neg h59]
    by_cases h58 : r4 = (82 : Int32)
    · rw [if_pos h58] at hs
      refine Rc.goL mt_702 2 (f2 := (if r4 = (82 : Int32) then 35 else 23, [.ref 3, .ref x1, .int x2, .int r4, UU], [], gm M5)) (b := true) rfl rfl ?_
      rw [if_pos h58]
      refine Rc.less (ls2 := [.ref 3, UU, UU, .int r4, UU]) (by refine ⟨Or.inr rfl, Or.inl rfl, Or.inl rfl, Or.inr rfl, Or.inl rfl, trivial⟩) ?_
      exact Hj52 r4 _ _ _ hs
    · rw [if_neg h58] at hs
      refine Rc.goL mt_702 2 (f2 := (if r4 = (82 : Int32) then 35 else 23, [.ref 3, .ref x1, .int x2, .int r4, UU], [], gm M5)) (b := true) rfl rfl ?_
      rw [if_neg h58]
      by_cases h57 : r4 = (67 : Int32)
      · rw [if_pos h57] at hs
        refine Rc.goL mt_702 2 (f2 := (if r4 = (67 : Int32) then 35 else 29, [.ref 3, .ref x1, .int x2, .int r4, UU], [], gm M5)) (b := true) rfl rfl ?_
        rw [if_pos h57]
        refine Rc.less (ls2 := [.ref 3, UU, UU, .int r4, UU]) (by refine ⟨Or.inr rfl, Or.inl rfl, Or.inl rfl, Or.inr rfl, Or.inl rfl, trivial⟩) ?_
        exact Hj52 r4 _ _ _ hs
      · rw [if_neg h57] at hs
        refine Rc.goL mt_702 2 (f2 := (if r4 = (67 : Int32) then 35 else 29, [.ref 3, .ref x1, .int x2, .int r4, UU], [], gm M5)) (b := true) rfl rfl ?_
        rw [if_neg h57]
        by_cases h56 : r4 = (84 : Int32)
        · rw [if_pos h56] at hs
          refine Rc.goL mt_702 2 (f2 := (if r4 = (84 : Int32) then 35 else 63, [.ref 3, .ref x1, .int x2, .int r4, UU], [], gm M5)) (b := true) rfl rfl ?_
          rw [if_pos h56]
          refine Rc.less (ls2 := [.ref 3, UU, UU, .int r4, UU]) (by refine ⟨Or.inr rfl, Or.inl rfl, Or.inl rfl, Or.inr rfl, Or.inl rfl, trivial⟩) ?_
          exact Hj52 r4 _ _ _ hs
        · rw [if_neg h56] at hs
          refine Rc.goL mt_702 2 (f2 := (if r4 = (84 : Int32) then 35 else 63, [.ref 3, .ref x1, .int x2, .int r4, UU], [], gm M5)) (b := true) rfl rfl ?_
          rw [if_neg h56]
          refine Rc.goL mt_702 1 (f2 := (65, [.ref 3, .ref x1, .int x2, .int r4, UU], [.int (1 : Int32), .ref 3], gm M5)) (b := true) rfl rfl ?_
          obtain ⟨u55, M53, he54, hs⟩ := ob_some hs
          refine Rc.callV (i := 58) (mid' := 706) (av := [.int (1 : Int32)]) (rest := []) (v := none) (M1 := gm M53) (a := 3) rfl rfl rfl cw_706 rfl (Nat.le_of_ble_eq_true rfl) rfl (Nat.le_of_ble_eq_true rfl) (qrd_fail_ok _ (by omega) he54) ?_
          refine Rc.less (ls2 := [.ref 3, UU, UU, UU, UU]) (by refine ⟨Or.inr rfl, Or.inl rfl, Or.inl rfl, Or.inl rfl, Or.inl rfl, trivial⟩) ?_
          exact Hj44 _ _ _ hs
def qtp_hasRoomFor (x1 : Int32) (M : SM) : Option (Int32 × SM) :=
  if (200 : Int32) < ((M.1 1 1) + x1) then
  (some ((0 : Int32), M)) else
  (some ((1 : Int32), M))
theorem mt_901 : MT 901 K_901 LN_9 := ⟨rfl, rfl, by decide +kernel⟩
theorem okm_901 : OKm 901 := ⟨⟨vE_901, okL_9, by decide +kernel⟩, by decide +kernel, by decide +kernel, by decide +kernel⟩
set_option maxRecDepth 20000 in
theorem qtp_hasRoomFor_ok (d : Nat) (hd : 1 ≤ d) {x1 : Int32} {M : SM} {r : Int32} {Mz : SM} (hs : qtp_hasRoomFor x1 M = some (r, Mz)) : Ex d 901 [.ref 1, .int x1] (gm M) (some (.int r), gm Mz) := by
  obtain ⟨d, rfl⟩ : ∃ d0, d = d0 + 1 := ⟨d - 1, by omega⟩
  refine Ex.of okm_901 (by omega) (Nat.le_of_ble_eq_true rfl) ?_
  show Rc (d + 1) 901 (0, [.ref 1, .int x1], [], gm M) _
  unfold qtp_hasRoomFor at hs
  refine Rc.goL mt_901 6 (f2 := (11, [.ref 1, .int x1], [.int (200 : Int32), .int ((M.1 1 1) + x1)], gm M)) (b := true) rfl rfl ?_
  by_cases h1 : (200 : Int32) < ((M.1 1 1) + x1)
  · rw [if_pos h1] at hs
    refine Rc.goL mt_901 0 (f2 := (if (200 : Int32) < ((M.1 1 1) + x1) then 18 else 14, [.ref 1, .int x1], [], gm M)) (b := true) rfl rfl ?_
    rw [if_pos h1]
    refine Rc.goL mt_901 0 (f2 := (19, [.ref 1, .int x1], [.int (0 : Int32)], gm M)) (b := true) rfl rfl ?_
    obtain ⟨e1, e2⟩ := some_p hs; subst e1; subst e2
    exact Rc.ret (v := some (.int (0 : Int32))) rfl rfl
  · rw [if_neg h1] at hs
    refine Rc.goL mt_901 0 (f2 := (if (200 : Int32) < ((M.1 1 1) + x1) then 18 else 14, [.ref 1, .int x1], [], gm M)) (b := true) rfl rfl ?_
    rw [if_neg h1]
    refine Rc.goL mt_901 1 (f2 := (19, [.ref 1, .int x1], [.int (1 : Int32)], gm M)) (b := true) rfl rfl ?_
    obtain ⟨e1, e2⟩ := some_p hs; subst e1; subst e2
    exact Rc.ret (v := some (.int (1 : Int32))) rfl rfl
def qtp_putByte (x1 : Int32) (M : SM) : Option (Unit × SM) :=
  if (M.1 1 1) < 0 then
  (some ((), M)) else
  (if (M.1 1 1) < (200 : Int32) then
    (ck (ib 200 (M.1 1 1) && true) (
      some ((), (wI (wI M 2 (Int32.toNatClampNeg (M.1 1 1)) (Int8.toInt32 (Int32.toInt8 (Int8.toInt32 (Int32.toInt8 x1))))) 1 1 ((M.1 1 1) + (1 : Int32)))))) else
    (some ((), M)))
theorem mt_903 : MT 903 K_903 LN_9 := ⟨rfl, rfl, by decide +kernel⟩
theorem okm_903 : OKm 903 := ⟨⟨vE_903, okL_9, by decide +kernel⟩, by decide +kernel, by decide +kernel, by decide +kernel⟩
set_option maxRecDepth 20000 in
theorem qtp_putByte_ok (d : Nat) (hd : 1 ≤ d) {x1 : Int32} {M : SM} {r : Unit} {Mz : SM} (hs : qtp_putByte x1 M = some (r, Mz)) : Ex d 903 [.ref 1, .int x1] (gm M) (none, gm Mz) := by
  obtain ⟨d, rfl⟩ : ∃ d0, d = d0 + 1 := ⟨d - 1, by omega⟩
  refine Ex.of okm_903 (by omega) (Nat.le_of_ble_eq_true rfl) ?_
  show Rc (d + 1) 903 (0, [.ref 1, .int x1], [], gm M) _
  unfold qtp_putByte at hs
  by_cases h3 : (M.1 1 1) < 0
  · rw [if_pos h3] at hs
    refine Rc.goL mt_903 2 (f2 := (if (M.1 1 1) < 0 then 19 else 7, [.ref 1, .int x1], [], gm M)) (b := true) rfl rfl ?_
    rw [if_pos h3]
    obtain ⟨e1, e2⟩ := some_p hs; subst e1; subst e2
    exact Rc.ret (v := none) rfl rfl
  · rw [if_neg h3] at hs
    refine Rc.goL mt_903 2 (f2 := (if (M.1 1 1) < 0 then 19 else 7, [.ref 1, .int x1], [], gm M)) (b := true) rfl rfl ?_
    rw [if_neg h3]
    by_cases h2 : (M.1 1 1) < (200 : Int32)
    · rw [if_pos h2] at hs
      refine Rc.goL mt_903 5 (f2 := (if (M.1 1 1) < (200 : Int32) then 20 else 19, [.ref 1, .int x1], [], gm M)) (b := true) rfl rfl ?_
      rw [if_pos h2]
      obtain ⟨hb1, hs⟩ := ck_some hs
      obtain ⟨hb1_0, hb1⟩ := and_t hb1
      refine Rc.goL mt_903 6 (f2 := (31, [.ref 1, .int x1], [], gm (wI M 2 (Int32.toNatClampNeg (M.1 1 1)) (Int8.toInt32 (Int32.toInt8 (Int8.toInt32 (Int32.toInt8 x1))))))) (b := (ib 200 (M.1 1 1) && true)) rfl (and_i hb1_0 rfl) ?_
      refine Rc.goL mt_903 5 (f2 := (41, [.ref 1, .int x1], [], gm (wI (wI M 2 (Int32.toNatClampNeg (M.1 1 1)) (Int8.toInt32 (Int32.toInt8 (Int8.toInt32 (Int32.toInt8 x1))))) 1 1 ((M.1 1 1) + (1 : Int32))))) (b := true) rfl rfl ?_
      obtain ⟨e1, e2⟩ := some_p hs; subst e1; subst e2
      exact Rc.ret (v := none) rfl rfl
    · rw [if_neg h2] at hs
      refine Rc.goL mt_903 5 (f2 := (if (M.1 1 1) < (200 : Int32) then 20 else 19, [.ref 1, .int x1], [], gm M)) (b := true) rfl rfl ?_
      rw [if_neg h2]
      obtain ⟨e1, e2⟩ := some_p hs; subst e1; subst e2
      exact Rc.ret (v := none) rfl rfl
def qtp_putInt (x1 : Int32) (M : SM) : Option (Unit × SM) :=
  ob (qtp_putByte (ushr x1 (24 : Int32)) M) (fun _ M1 =>
  ob (qtp_putByte (ushr x1 (16 : Int32)) M1) (fun _ M4 =>
  ob (qtp_putByte (ushr x1 (8 : Int32)) M4) (fun _ M7 =>
  ob (qtp_putByte x1 M7) (fun _ M10 =>
  some ((), M10)))))
theorem mt_902 : MT 902 K_902 LN_9 := ⟨rfl, rfl, by decide +kernel⟩
theorem okm_902 : OKm 902 := ⟨⟨vE_902, okL_9, by decide +kernel⟩, by decide +kernel, by decide +kernel, by decide +kernel⟩
set_option maxRecDepth 20000 in
theorem qtp_putInt_ok (d : Nat) (hd : 2 ≤ d) {x1 : Int32} {M : SM} {r : Unit} {Mz : SM} (hs : qtp_putInt x1 M = some (r, Mz)) : Ex d 902 [.ref 1, .int x1] (gm M) (none, gm Mz) := by
  obtain ⟨d, rfl⟩ : ∃ d0, d = d0 + 1 := ⟨d - 1, by omega⟩
  refine Ex.of okm_902 (by omega) (Nat.le_of_ble_eq_true rfl) ?_
  show Rc (d + 1) 902 (0, [.ref 1, .int x1], [], gm M) _
  unfold qtp_putInt at hs
  refine Rc.goL mt_902 3 (f2 := (5, [.ref 1, .int x1], [.int (ushr x1 (24 : Int32)), .ref 1], gm M)) (b := true) rfl rfl ?_
  obtain ⟨u3, M1, he2, hs⟩ := ob_some hs
  refine Rc.callV (i := 17) (mid' := 903) (av := [.int (ushr x1 (24 : Int32))]) (rest := []) (v := none) (M1 := gm M1) (a := 1) rfl rfl rfl cw_903 rfl (Nat.le_of_ble_eq_true rfl) rfl (Nat.le_of_ble_eq_true rfl) (qtp_putByte_ok _ (by omega) he2) ?_
  refine Rc.goL mt_902 3 (f2 := (13, [.ref 1, .int x1], [.int (ushr x1 (16 : Int32)), .ref 1], gm M1)) (b := true) rfl rfl ?_
  obtain ⟨u6, M4, he5, hs⟩ := ob_some hs
  refine Rc.callV (i := 17) (mid' := 903) (av := [.int (ushr x1 (16 : Int32))]) (rest := []) (v := none) (M1 := gm M4) (a := 1) rfl rfl rfl cw_903 rfl (Nat.le_of_ble_eq_true rfl) rfl (Nat.le_of_ble_eq_true rfl) (qtp_putByte_ok _ (by omega) he5) ?_
  refine Rc.goL mt_902 3 (f2 := (21, [.ref 1, .int x1], [.int (ushr x1 (8 : Int32)), .ref 1], gm M4)) (b := true) rfl rfl ?_
  obtain ⟨u9, M7, he8, hs⟩ := ob_some hs
  refine Rc.callV (i := 17) (mid' := 903) (av := [.int (ushr x1 (8 : Int32))]) (rest := []) (v := none) (M1 := gm M7) (a := 1) rfl rfl rfl cw_903 rfl (Nat.le_of_ble_eq_true rfl) rfl (Nat.le_of_ble_eq_true rfl) (qtp_putByte_ok _ (by omega) he8) ?_
  refine Rc.goL mt_902 1 (f2 := (26, [.ref 1, .int x1], [.int x1, .ref 1], gm M7)) (b := true) rfl rfl ?_
  obtain ⟨u12, M10, he11, hs⟩ := ob_some hs
  refine Rc.callV (i := 17) (mid' := 903) (av := [.int x1]) (rest := []) (v := none) (M1 := gm M10) (a := 1) rfl rfl rfl cw_903 rfl (Nat.le_of_ble_eq_true rfl) rfl (Nat.le_of_ble_eq_true rfl) (qtp_putByte_ok _ (by omega) he11) ?_
  obtain ⟨e1, e2⟩ := some_p hs; subst e1; subst e2
  exact Rc.ret (v := none) rfl rfl
def qtp_intAt (x1 : Int32) (M : SM) : Option (Int32 × SM) :=
  ob (qtp_byteAt x1 M) (fun r1 M2 =>
  ob (qtp_byteAt (x1 + (1 : Int32)) M2) (fun r4 M5 =>
  ob (qtp_byteAt (x1 + (2 : Int32)) M5) (fun r7 M8 =>
  ob (qtp_byteAt (x1 + (3 : Int32)) M8) (fun r10 M11 =>
  some (((((r1 <<< ((24 : Int32) &&& 31)) ||| (r4 <<< ((16 : Int32) &&& 31))) ||| (r7 <<< ((8 : Int32) &&& 31))) ||| r10), M11)))))
theorem mt_905 : MT 905 K_905 LN_9 := ⟨rfl, rfl, by decide +kernel⟩
theorem okm_905 : OKm 905 := ⟨⟨vE_905, okL_9, by decide +kernel⟩, by decide +kernel, by decide +kernel, by decide +kernel⟩
set_option maxRecDepth 20000 in
theorem qtp_intAt_ok (d : Nat) (hd : 2 ≤ d) {x1 : Int32} {M : SM} {r : Int32} {Mz : SM} (hs : qtp_intAt x1 M = some (r, Mz)) : Ex d 905 [.ref 1, .int x1] (gm M) (some (.int r), gm Mz) := by
  obtain ⟨d, rfl⟩ : ∃ d0, d = d0 + 1 := ⟨d - 1, by omega⟩
  refine Ex.of okm_905 (by omega) (Nat.le_of_ble_eq_true rfl) ?_
  show Rc (d + 1) 905 (0, [.ref 1, .int x1], [], gm M) _
  unfold qtp_intAt at hs
  refine Rc.goL mt_905 1 (f2 := (2, [.ref 1, .int x1], [.int x1, .ref 1], gm M)) (b := true) rfl rfl ?_
  obtain ⟨r1, M2, he3, hs⟩ := ob_some hs
  refine Rc.callV (i := 21) (mid' := 904) (av := [.int x1]) (rest := []) (v := some (.int r1)) (M1 := gm M2) (a := 1) rfl rfl rfl cw_904 rfl (Nat.le_of_ble_eq_true rfl) rfl (Nat.le_of_ble_eq_true rfl) (qtp_byteAt_ok _ (by omega) he3) ?_
  refine Rc.goL mt_905 5 (f2 := (12, [.ref 1, .int x1], [.int (x1 + (1 : Int32)), .ref 1, .int (r1 <<< ((24 : Int32) &&& 31))], gm M2)) (b := true) rfl rfl ?_
  obtain ⟨r4, M5, he6, hs⟩ := ob_some hs
  refine Rc.callV (i := 21) (mid' := 904) (av := [.int (x1 + (1 : Int32))]) (rest := [.int (r1 <<< ((24 : Int32) &&& 31))]) (v := some (.int r4)) (M1 := gm M5) (a := 1) rfl rfl rfl cw_904 rfl (Nat.le_of_ble_eq_true rfl) rfl (Nat.le_of_ble_eq_true rfl) (qtp_byteAt_ok _ (by omega) he6) ?_
  refine Rc.goL mt_905 6 (f2 := (23, [.ref 1, .int x1], [.int (x1 + (2 : Int32)), .ref 1, .int ((r1 <<< ((24 : Int32) &&& 31)) ||| (r4 <<< ((16 : Int32) &&& 31)))], gm M5)) (b := true) rfl rfl ?_
  obtain ⟨r7, M8, he9, hs⟩ := ob_some hs
  refine Rc.callV (i := 21) (mid' := 904) (av := [.int (x1 + (2 : Int32))]) (rest := [.int ((r1 <<< ((24 : Int32) &&& 31)) ||| (r4 <<< ((16 : Int32) &&& 31)))]) (v := some (.int r7)) (M1 := gm M8) (a := 1) rfl rfl rfl cw_904 rfl (Nat.le_of_ble_eq_true rfl) rfl (Nat.le_of_ble_eq_true rfl) (qtp_byteAt_ok _ (by omega) he9) ?_
  refine Rc.goL mt_905 6 (f2 := (34, [.ref 1, .int x1], [.int (x1 + (3 : Int32)), .ref 1, .int (((r1 <<< ((24 : Int32) &&& 31)) ||| (r4 <<< ((16 : Int32) &&& 31))) ||| (r7 <<< ((8 : Int32) &&& 31)))], gm M8)) (b := true) rfl rfl ?_
  obtain ⟨r10, M11, he12, hs⟩ := ob_some hs
  refine Rc.callV (i := 21) (mid' := 904) (av := [.int (x1 + (3 : Int32))]) (rest := [.int (((r1 <<< ((24 : Int32) &&& 31)) ||| (r4 <<< ((16 : Int32) &&& 31))) ||| (r7 <<< ((8 : Int32) &&& 31)))]) (v := some (.int r10)) (M1 := gm M11) (a := 1) rfl rfl rfl cw_904 rfl (Nat.le_of_ble_eq_true rfl) rfl (Nat.le_of_ble_eq_true rfl) (qtp_byteAt_ok _ (by omega) he12) ?_
  refine Rc.goL mt_905 0 (f2 := (38, [.ref 1, .int x1], [.int ((((r1 <<< ((24 : Int32) &&& 31)) ||| (r4 <<< ((16 : Int32) &&& 31))) ||| (r7 <<< ((8 : Int32) &&& 31))) ||| r10)], gm M11)) (b := true) rfl rfl ?_
  obtain ⟨e1, e2⟩ := some_p hs; subst e1; subst e2
  exact Rc.ret (v := some (.int ((((r1 <<< ((24 : Int32) &&& 31)) ||| (r4 <<< ((16 : Int32) &&& 31))) ||| (r7 <<< ((8 : Int32) &&& 31))) ||| r10))) rfl rfl
def qtp_wipe (M : SM) : Option (Unit × SM) :=
  some ((), (wI M 1 1 (0 : Int32)))
theorem mt_906 : MT 906 K_906 LN_9 := ⟨rfl, rfl, by decide +kernel⟩
theorem okm_906 : OKm 906 := ⟨⟨vE_906, okL_9, by decide +kernel⟩, by decide +kernel, by decide +kernel, by decide +kernel⟩
set_option maxRecDepth 20000 in
theorem qtp_wipe_ok (d : Nat) (hd : 1 ≤ d) {M : SM} {r : Unit} {Mz : SM} (hs : qtp_wipe M = some (r, Mz)) : Ex d 906 [.ref 1] (gm M) (none, gm Mz) := by
  obtain ⟨d, rfl⟩ : ∃ d0, d = d0 + 1 := ⟨d - 1, by omega⟩
  refine Ex.of okm_906 (by omega) (Nat.le_of_ble_eq_true rfl) ?_
  show Rc (d + 1) 906 (0, [.ref 1], [], gm M) _
  unfold qtp_wipe at hs
  refine Rc.goL mt_906 2 (f2 := (5, [.ref 1], [], gm (wI M 1 1 (0 : Int32)))) (b := true) rfl rfl ?_
  obtain ⟨e1, e2⟩ := some_p hs; subst e1; subst e2
  exact Rc.ret (v := none) rfl rfl
def qtn_fill_L11 : Nat → Nat → Int32 → Int32 → SM → Option (Unit × SM)
  | 0, _, _, _, _ => none
  | n + 1, x0, x2, x3, M =>
    ck ((Nat.blt 19 (K0 x0) && Nat.blt (K0 x0) 28 && Nat.blt x0 336) && true) (
    if x3 < (Int32.ofNat (Z0 x0)) then
    (ck (av 336 20 x0 x3 && true) (
      qtn_fill_L11 n x0 x2 (x3 + (1 : Int32)) (wI M x0 (Int32.toNatClampNeg x3) x2))) else
    (some ((), M)))
def qtn_fill (x0 : Nat) (x1 : Int32) (x2 : Int32) (M : SM) : Option (Unit × SM) :=
  if x1 < 0 then
  (some ((), M)) else
  (qtn_fill_L11 FU x0 x2 x1 M)
theorem mt_1001 : MT 1001 K_1001 LN_10 := ⟨rfl, rfl, by decide +kernel⟩
theorem okm_1001 : OKm 1001 := ⟨⟨vE_1001, okL_10, by decide +kernel⟩, by decide +kernel, by decide +kernel, by decide +kernel⟩
set_option maxRecDepth 20000 in
theorem qtn_fill_L11_ok (d : Nat) (hd : 1 ≤ d + 1) : ∀ (n : Nat) (x0 : Nat) (x2 : Int32) (x3 : Int32) (M : SM) (r : Unit) (Mz : SM), qtn_fill_L11 n x0 x2 x3 M = some (r, Mz) → Rc (d + 1) 1001 (11, [.ref x0, UU, .int x2, .int x3], [], gm M) (none, gm Mz) := by
  intro n
  induction n with
  | zero => intro x0 x2 x3 M r Mz hs; cases hs
  | succ n ih =>
    intro x0 x2 x3 M r Mz hs
    rw [qtn_fill_L11] at hs
    obtain ⟨hb1, hs⟩ := ck_some hs
    by_cases h3 : x3 < (Int32.ofNat (Z0 x0))
    · rw [if_pos h3] at hs
      refine Rc.goL mt_1001 3 (f2 := (if x3 < (Int32.ofNat (Z0 x0)) then 17 else 27, [.ref x0, UU, .int x2, .int x3], [], gm M)) (b := ((Nat.blt 19 (K0 x0) && Nat.blt (K0 x0) 28 && Nat.blt x0 336) && true)) rfl hb1 ?_
      rw [if_pos h3]
      obtain ⟨hb2, hs⟩ := ck_some hs
      obtain ⟨hb2_0, hb2⟩ := and_t hb2
      refine Rc.goL mt_1001 3 (f2 := (21, [.ref x0, UU, .int x2, .int x3], [], gm (wI M x0 (Int32.toNatClampNeg x3) x2))) (b := (av 336 20 x0 x3 && true)) rfl (and_i hb2_0 rfl) ?_
      refine Rc.goL mt_1001 1 (f2 := (11, [.ref x0, UU, .int x2, .int (x3 + (1 : Int32))], [], gm (wI M x0 (Int32.toNatClampNeg x3) x2))) (b := true) rfl rfl ?_
      refine Rc.less (ls2 := [.ref x0, UU, .int x2, .int (x3 + (1 : Int32))]) (by refine ⟨Or.inr rfl, Or.inl rfl, Or.inr rfl, Or.inr rfl, trivial⟩) ?_
      exact ih x0 x2 (x3 + (1 : Int32)) _ _ _ hs
    · rw [if_neg h3] at hs
      refine Rc.goL mt_1001 3 (f2 := (if x3 < (Int32.ofNat (Z0 x0)) then 17 else 27, [.ref x0, UU, .int x2, .int x3], [], gm M)) (b := ((Nat.blt 19 (K0 x0) && Nat.blt (K0 x0) 28 && Nat.blt x0 336) && true)) rfl hb1 ?_
      rw [if_neg h3]
      obtain ⟨e1, e2⟩ := some_p hs; subst e1; subst e2
      exact Rc.ret (v := none) rfl rfl
set_option maxRecDepth 20000 in
theorem qtn_fill_ok (d : Nat) (hd : 1 ≤ d) {x0 : Nat} {x1 : Int32} {x2 : Int32} {M : SM} {r : Unit} {Mz : SM} (hs : qtn_fill x0 x1 x2 M = some (r, Mz)) : Ex d 1001 [.ref x0, .int x1, .int x2] (gm M) (none, gm Mz) := by
  obtain ⟨d, rfl⟩ : ∃ d0, d = d0 + 1 := ⟨d - 1, by omega⟩
  refine Ex.of okm_1001 (by omega) (Nat.le_of_ble_eq_true rfl) ?_
  show Rc (d + 1) 1001 (0, [.ref x0, .int x1, .int x2, UU], [], gm M) _
  unfold qtn_fill at hs
  refine Rc.goL mt_1001 1 (f2 := (4, [.ref x0, .int x1, .int x2, UU], [], gm M)) (b := true) rfl rfl ?_
  by_cases h4 : x1 < 0
  · rw [if_pos h4] at hs
    refine Rc.goL mt_1001 1 (f2 := (if x1 < 0 then 8 else 9, [.ref x0, .int x1, .int x2, UU], [], gm M)) (b := true) rfl rfl ?_
    rw [if_pos h4]
    obtain ⟨e1, e2⟩ := some_p hs; subst e1; subst e2
    exact Rc.ret (v := none) rfl rfl
  · rw [if_neg h4] at hs
    refine Rc.goL mt_1001 1 (f2 := (if x1 < 0 then 8 else 9, [.ref x0, .int x1, .int x2, UU], [], gm M)) (b := true) rfl rfl ?_
    rw [if_neg h4]
    refine Rc.goL mt_1001 1 (f2 := (11, [.ref x0, .int x1, .int x2, .int x1], [], gm M)) (b := true) rfl rfl ?_
    refine Rc.less (ls2 := [.ref x0, UU, .int x2, .int x1]) (by refine ⟨Or.inr rfl, Or.inl rfl, Or.inr rfl, Or.inr rfl, trivial⟩) ?_
    exact qtn_fill_L11_ok d hd _ x0 x2 x1 _ _ _ hs
def qtn_hasMaster (x1 : Int32) (M : SM) : Option (Int32 × SM) :=
  if x1 < 0 then
  (some ((0 : Int32), M)) else
  (if x1 < (M.1 179 1) then
    (if x1 < (6 : Int32) then
      (some ((1 : Int32), M)) else
      (some ((0 : Int32), M))) else
    (some ((0 : Int32), M)))
theorem mt_1002 : MT 1002 K_1002 LN_10 := ⟨rfl, rfl, by decide +kernel⟩
theorem okm_1002 : OKm 1002 := ⟨⟨vE_1002, okL_10, by decide +kernel⟩, by decide +kernel, by decide +kernel, by decide +kernel⟩
set_option maxRecDepth 20000 in
theorem qtn_hasMaster_ok (d : Nat) (hd : 1 ≤ d) {x1 : Int32} {M : SM} {r : Int32} {Mz : SM} (hs : qtn_hasMaster x1 M = some (r, Mz)) : Ex d 1002 [.ref 179, .int x1] (gm M) (some (.int r), gm Mz) := by
  obtain ⟨d, rfl⟩ : ∃ d0, d = d0 + 1 := ⟨d - 1, by omega⟩
  refine Ex.of okm_1002 (by omega) (Nat.le_of_ble_eq_true rfl) ?_
  show Rc (d + 1) 1002 (0, [.ref 179, .int x1], [], gm M) _
  unfold qtn_hasMaster at hs
  by_cases h3 : x1 < 0
  · rw [if_pos h3] at hs
    refine Rc.goL mt_1002 1 (f2 := (if x1 < 0 then 22 else 4, [.ref 179, .int x1], [], gm M)) (b := true) rfl rfl ?_
    rw [if_pos h3]
    refine Rc.goL mt_1002 0 (f2 := (23, [.ref 179, .int x1], [.int (0 : Int32)], gm M)) (b := true) rfl rfl ?_
    obtain ⟨e1, e2⟩ := some_p hs; subst e1; subst e2
    exact Rc.ret (v := some (.int (0 : Int32))) rfl rfl
  · rw [if_neg h3] at hs
    refine Rc.goL mt_1002 1 (f2 := (if x1 < 0 then 22 else 4, [.ref 179, .int x1], [], gm M)) (b := true) rfl rfl ?_
    rw [if_neg h3]
    by_cases h2 : x1 < (M.1 179 1)
    · rw [if_pos h2] at hs
      refine Rc.goL mt_1002 3 (f2 := (if x1 < (M.1 179 1) then 12 else 22, [.ref 179, .int x1], [], gm M)) (b := true) rfl rfl ?_
      rw [if_pos h2]
      by_cases h1 : x1 < (6 : Int32)
      · rw [if_pos h1] at hs
        refine Rc.goL mt_1002 2 (f2 := (if x1 < (6 : Int32) then 18 else 22, [.ref 179, .int x1], [], gm M)) (b := true) rfl rfl ?_
        rw [if_pos h1]
        refine Rc.goL mt_1002 1 (f2 := (23, [.ref 179, .int x1], [.int (1 : Int32)], gm M)) (b := true) rfl rfl ?_
        obtain ⟨e1, e2⟩ := some_p hs; subst e1; subst e2
        exact Rc.ret (v := some (.int (1 : Int32))) rfl rfl
      · rw [if_neg h1] at hs
        refine Rc.goL mt_1002 2 (f2 := (if x1 < (6 : Int32) then 18 else 22, [.ref 179, .int x1], [], gm M)) (b := true) rfl rfl ?_
        rw [if_neg h1]
        refine Rc.goL mt_1002 0 (f2 := (23, [.ref 179, .int x1], [.int (0 : Int32)], gm M)) (b := true) rfl rfl ?_
        obtain ⟨e1, e2⟩ := some_p hs; subst e1; subst e2
        exact Rc.ret (v := some (.int (0 : Int32))) rfl rfl
    · rw [if_neg h2] at hs
      refine Rc.goL mt_1002 3 (f2 := (if x1 < (M.1 179 1) then 12 else 22, [.ref 179, .int x1], [], gm M)) (b := true) rfl rfl ?_
      rw [if_neg h2]
      refine Rc.goL mt_1002 0 (f2 := (23, [.ref 179, .int x1], [.int (0 : Int32)], gm M)) (b := true) rfl rfl ?_
      obtain ⟨e1, e2⟩ := some_p hs; subst e1; subst e2
      exact Rc.ret (v := some (.int (0 : Int32))) rfl rfl
def qtn_hasFrame (x1 : Int32) (M : SM) : Option (Int32 × SM) :=
  if x1 < 0 then
  (some ((0 : Int32), M)) else
  (if x1 < (M.1 179 3) then
    (if x1 < (16 : Int32) then
      (some ((1 : Int32), M)) else
      (some ((0 : Int32), M))) else
    (some ((0 : Int32), M)))
theorem mt_1004 : MT 1004 K_1004 LN_10 := ⟨rfl, rfl, by decide +kernel⟩
theorem okm_1004 : OKm 1004 := ⟨⟨vE_1004, okL_10, by decide +kernel⟩, by decide +kernel, by decide +kernel, by decide +kernel⟩
set_option maxRecDepth 20000 in
theorem qtn_hasFrame_ok (d : Nat) (hd : 1 ≤ d) {x1 : Int32} {M : SM} {r : Int32} {Mz : SM} (hs : qtn_hasFrame x1 M = some (r, Mz)) : Ex d 1004 [.ref 179, .int x1] (gm M) (some (.int r), gm Mz) := by
  obtain ⟨d, rfl⟩ : ∃ d0, d = d0 + 1 := ⟨d - 1, by omega⟩
  refine Ex.of okm_1004 (by omega) (Nat.le_of_ble_eq_true rfl) ?_
  show Rc (d + 1) 1004 (0, [.ref 179, .int x1], [], gm M) _
  unfold qtn_hasFrame at hs
  by_cases h3 : x1 < 0
  · rw [if_pos h3] at hs
    refine Rc.goL mt_1004 1 (f2 := (if x1 < 0 then 22 else 4, [.ref 179, .int x1], [], gm M)) (b := true) rfl rfl ?_
    rw [if_pos h3]
    refine Rc.goL mt_1004 0 (f2 := (23, [.ref 179, .int x1], [.int (0 : Int32)], gm M)) (b := true) rfl rfl ?_
    obtain ⟨e1, e2⟩ := some_p hs; subst e1; subst e2
    exact Rc.ret (v := some (.int (0 : Int32))) rfl rfl
  · rw [if_neg h3] at hs
    refine Rc.goL mt_1004 1 (f2 := (if x1 < 0 then 22 else 4, [.ref 179, .int x1], [], gm M)) (b := true) rfl rfl ?_
    rw [if_neg h3]
    by_cases h2 : x1 < (M.1 179 3)
    · rw [if_pos h2] at hs
      refine Rc.goL mt_1004 3 (f2 := (if x1 < (M.1 179 3) then 12 else 22, [.ref 179, .int x1], [], gm M)) (b := true) rfl rfl ?_
      rw [if_pos h2]
      by_cases h1 : x1 < (16 : Int32)
      · rw [if_pos h1] at hs
        refine Rc.goL mt_1004 2 (f2 := (if x1 < (16 : Int32) then 18 else 22, [.ref 179, .int x1], [], gm M)) (b := true) rfl rfl ?_
        rw [if_pos h1]
        refine Rc.goL mt_1004 1 (f2 := (23, [.ref 179, .int x1], [.int (1 : Int32)], gm M)) (b := true) rfl rfl ?_
        obtain ⟨e1, e2⟩ := some_p hs; subst e1; subst e2
        exact Rc.ret (v := some (.int (1 : Int32))) rfl rfl
      · rw [if_neg h1] at hs
        refine Rc.goL mt_1004 2 (f2 := (if x1 < (16 : Int32) then 18 else 22, [.ref 179, .int x1], [], gm M)) (b := true) rfl rfl ?_
        rw [if_neg h1]
        refine Rc.goL mt_1004 0 (f2 := (23, [.ref 179, .int x1], [.int (0 : Int32)], gm M)) (b := true) rfl rfl ?_
        obtain ⟨e1, e2⟩ := some_p hs; subst e1; subst e2
        exact Rc.ret (v := some (.int (0 : Int32))) rfl rfl
    · rw [if_neg h2] at hs
      refine Rc.goL mt_1004 3 (f2 := (if x1 < (M.1 179 3) then 12 else 22, [.ref 179, .int x1], [], gm M)) (b := true) rfl rfl ?_
      rw [if_neg h2]
      refine Rc.goL mt_1004 0 (f2 := (23, [.ref 179, .int x1], [.int (0 : Int32)], gm M)) (b := true) rfl rfl ?_
      obtain ⟨e1, e2⟩ := some_p hs; subst e1; subst e2
      exact Rc.ret (v := some (.int (0 : Int32))) rfl rfl
def qtn_isHouse (x1 : Int32) (M : SM) : Option (Int32 × SM) :=
  ob (qtn_hasMaster x1 M) (fun r1 M2 =>
  if r1 = 0 then
  (some ((0 : Int32), M2)) else
  (ck (ib 6 x1 && true) (
    if (M2.1 180 (Int32.toNatClampNeg x1)) = (-1 : Int32) then
    (some ((1 : Int32), M2)) else
    (some ((0 : Int32), M2)))))
theorem mt_1005 : MT 1005 K_1005 LN_10 := ⟨rfl, rfl, by decide +kernel⟩
theorem okm_1005 : OKm 1005 := ⟨⟨vE_1005, okL_10, by decide +kernel⟩, by decide +kernel, by decide +kernel, by decide +kernel⟩
set_option maxRecDepth 20000 in
theorem qtn_isHouse_ok (d : Nat) (hd : 2 ≤ d) {x1 : Int32} {M : SM} {r : Int32} {Mz : SM} (hs : qtn_isHouse x1 M = some (r, Mz)) : Ex d 1005 [.ref 179, .int x1] (gm M) (some (.int r), gm Mz) := by
  obtain ⟨d, rfl⟩ : ∃ d0, d = d0 + 1 := ⟨d - 1, by omega⟩
  refine Ex.of okm_1005 (by omega) (Nat.le_of_ble_eq_true rfl) ?_
  show Rc (d + 1) 1005 (0, [.ref 179, .int x1], [], gm M) _
  unfold qtn_isHouse at hs
  refine Rc.goL mt_1005 1 (f2 := (2, [.ref 179, .int x1], [.int x1, .ref 179], gm M)) (b := true) rfl rfl ?_
  obtain ⟨r1, M2, he3, hs⟩ := ob_some hs
  refine Rc.callV (i := 52) (mid' := 1002) (av := [.int x1]) (rest := []) (v := some (.int r1)) (M1 := gm M2) (a := 179) rfl rfl rfl cw_1002 rfl (Nat.le_of_ble_eq_true rfl) rfl (Nat.le_of_ble_eq_true rfl) (qtn_hasMaster_ok _ (by omega) he3) ?_
  by_cases h6 : r1 = 0
  · rw [if_pos h6] at hs
    refine Rc.goL mt_1005 0 (f2 := (if r1 = 0 then 22 else 8, [.ref 179, .int x1], [], gm M2)) (b := true) rfl rfl ?_
    rw [if_pos h6]
    refine Rc.goL mt_1005 0 (f2 := (23, [.ref 179, .int x1], [.int (0 : Int32)], gm M2)) (b := true) rfl rfl ?_
    obtain ⟨e1, e2⟩ := some_p hs; subst e1; subst e2
    exact Rc.ret (v := some (.int (0 : Int32))) rfl rfl
  · rw [if_neg h6] at hs
    refine Rc.goL mt_1005 0 (f2 := (if r1 = 0 then 22 else 8, [.ref 179, .int x1], [], gm M2)) (b := true) rfl rfl ?_
    rw [if_neg h6]
    obtain ⟨hb4, hs⟩ := ck_some hs
    by_cases h5 : (M2.1 180 (Int32.toNatClampNeg x1)) = (-1 : Int32)
    · rw [if_pos h5] at hs
      refine Rc.goL mt_1005 5 (f2 := (if (M2.1 180 (Int32.toNatClampNeg x1)) = (-1 : Int32) then 18 else 22, [.ref 179, .int x1], [], gm M2)) (b := (ib 6 x1 && true)) rfl hb4 ?_
      rw [if_pos h5]
      refine Rc.goL mt_1005 1 (f2 := (23, [.ref 179, .int x1], [.int (1 : Int32)], gm M2)) (b := true) rfl rfl ?_
      obtain ⟨e1, e2⟩ := some_p hs; subst e1; subst e2
      exact Rc.ret (v := some (.int (1 : Int32))) rfl rfl
    · rw [if_neg h5] at hs
      refine Rc.goL mt_1005 5 (f2 := (if (M2.1 180 (Int32.toNatClampNeg x1)) = (-1 : Int32) then 18 else 22, [.ref 179, .int x1], [], gm M2)) (b := (ib 6 x1 && true)) rfl hb4 ?_
      rw [if_neg h5]
      refine Rc.goL mt_1005 0 (f2 := (23, [.ref 179, .int x1], [.int (0 : Int32)], gm M2)) (b := true) rfl rfl ?_
      obtain ⟨e1, e2⟩ := some_p hs; subst e1; subst e2
      exact Rc.ret (v := some (.int (0 : Int32))) rfl rfl
def qtn_isBagman (x1 : Int32) (M : SM) : Option (Int32 × SM) :=
  ob (qtn_hasMaster x1 M) (fun r1 M2 =>
  if r1 = 0 then
  (some ((0 : Int32), M2)) else
  (ck (ib 6 x1 && true) (
    if (M2.1 180 (Int32.toNatClampNeg x1)) = (-1 : Int32) then
    (some ((0 : Int32), M2)) else
    (some ((1 : Int32), M2)))))
theorem mt_1006 : MT 1006 K_1006 LN_10 := ⟨rfl, rfl, by decide +kernel⟩
theorem okm_1006 : OKm 1006 := ⟨⟨vE_1006, okL_10, by decide +kernel⟩, by decide +kernel, by decide +kernel, by decide +kernel⟩
set_option maxRecDepth 20000 in
theorem qtn_isBagman_ok (d : Nat) (hd : 2 ≤ d) {x1 : Int32} {M : SM} {r : Int32} {Mz : SM} (hs : qtn_isBagman x1 M = some (r, Mz)) : Ex d 1006 [.ref 179, .int x1] (gm M) (some (.int r), gm Mz) := by
  obtain ⟨d, rfl⟩ : ∃ d0, d = d0 + 1 := ⟨d - 1, by omega⟩
  refine Ex.of okm_1006 (by omega) (Nat.le_of_ble_eq_true rfl) ?_
  show Rc (d + 1) 1006 (0, [.ref 179, .int x1], [], gm M) _
  unfold qtn_isBagman at hs
  refine Rc.goL mt_1006 1 (f2 := (2, [.ref 179, .int x1], [.int x1, .ref 179], gm M)) (b := true) rfl rfl ?_
  obtain ⟨r1, M2, he3, hs⟩ := ob_some hs
  refine Rc.callV (i := 52) (mid' := 1002) (av := [.int x1]) (rest := []) (v := some (.int r1)) (M1 := gm M2) (a := 179) rfl rfl rfl cw_1002 rfl (Nat.le_of_ble_eq_true rfl) rfl (Nat.le_of_ble_eq_true rfl) (qtn_hasMaster_ok _ (by omega) he3) ?_
  by_cases h6 : r1 = 0
  · rw [if_pos h6] at hs
    refine Rc.goL mt_1006 0 (f2 := (if r1 = 0 then 22 else 8, [.ref 179, .int x1], [], gm M2)) (b := true) rfl rfl ?_
    rw [if_pos h6]
    refine Rc.goL mt_1006 0 (f2 := (23, [.ref 179, .int x1], [.int (0 : Int32)], gm M2)) (b := true) rfl rfl ?_
    obtain ⟨e1, e2⟩ := some_p hs; subst e1; subst e2
    exact Rc.ret (v := some (.int (0 : Int32))) rfl rfl
  · rw [if_neg h6] at hs
    refine Rc.goL mt_1006 0 (f2 := (if r1 = 0 then 22 else 8, [.ref 179, .int x1], [], gm M2)) (b := true) rfl rfl ?_
    rw [if_neg h6]
    obtain ⟨hb4, hs⟩ := ck_some hs
    by_cases h5 : (M2.1 180 (Int32.toNatClampNeg x1)) = (-1 : Int32)
    · rw [if_pos h5] at hs
      refine Rc.goL mt_1006 5 (f2 := (if (M2.1 180 (Int32.toNatClampNeg x1)) = (-1 : Int32) then 22 else 18, [.ref 179, .int x1], [], gm M2)) (b := (ib 6 x1 && true)) rfl hb4 ?_
      rw [if_pos h5]
      refine Rc.goL mt_1006 0 (f2 := (23, [.ref 179, .int x1], [.int (0 : Int32)], gm M2)) (b := true) rfl rfl ?_
      obtain ⟨e1, e2⟩ := some_p hs; subst e1; subst e2
      exact Rc.ret (v := some (.int (0 : Int32))) rfl rfl
    · rw [if_neg h5] at hs
      refine Rc.goL mt_1006 5 (f2 := (if (M2.1 180 (Int32.toNatClampNeg x1)) = (-1 : Int32) then 22 else 18, [.ref 179, .int x1], [], gm M2)) (b := (ib 6 x1 && true)) rfl hb4 ?_
      rw [if_neg h5]
      refine Rc.goL mt_1006 1 (f2 := (23, [.ref 179, .int x1], [.int (1 : Int32)], gm M2)) (b := true) rfl rfl ?_
      obtain ⟨e1, e2⟩ := some_p hs; subst e1; subst e2
      exact Rc.ret (v := some (.int (1 : Int32))) rfl rfl
def qtn_isOwn (x1 : Int32) (M : SM) : Option (Int32 × SM) :=
  ob (qtn_hasFrame x1 M) (fun r1 M2 =>
  if r1 = 0 then
  (some ((0 : Int32), M2)) else
  (ck (ib 16 x1 && true) (
    if (M2.1 185 (Int32.toNatClampNeg x1)) = (-1 : Int32) then
    (some ((0 : Int32), M2)) else
    (some ((1 : Int32), M2)))))
theorem mt_1007 : MT 1007 K_1007 LN_10 := ⟨rfl, rfl, by decide +kernel⟩
theorem okm_1007 : OKm 1007 := ⟨⟨vE_1007, okL_10, by decide +kernel⟩, by decide +kernel, by decide +kernel, by decide +kernel⟩
set_option maxRecDepth 20000 in
theorem qtn_isOwn_ok (d : Nat) (hd : 2 ≤ d) {x1 : Int32} {M : SM} {r : Int32} {Mz : SM} (hs : qtn_isOwn x1 M = some (r, Mz)) : Ex d 1007 [.ref 179, .int x1] (gm M) (some (.int r), gm Mz) := by
  obtain ⟨d, rfl⟩ : ∃ d0, d = d0 + 1 := ⟨d - 1, by omega⟩
  refine Ex.of okm_1007 (by omega) (Nat.le_of_ble_eq_true rfl) ?_
  show Rc (d + 1) 1007 (0, [.ref 179, .int x1], [], gm M) _
  unfold qtn_isOwn at hs
  refine Rc.goL mt_1007 1 (f2 := (2, [.ref 179, .int x1], [.int x1, .ref 179], gm M)) (b := true) rfl rfl ?_
  obtain ⟨r1, M2, he3, hs⟩ := ob_some hs
  refine Rc.callV (i := 56) (mid' := 1004) (av := [.int x1]) (rest := []) (v := some (.int r1)) (M1 := gm M2) (a := 179) rfl rfl rfl cw_1004 rfl (Nat.le_of_ble_eq_true rfl) rfl (Nat.le_of_ble_eq_true rfl) (qtn_hasFrame_ok _ (by omega) he3) ?_
  by_cases h6 : r1 = 0
  · rw [if_pos h6] at hs
    refine Rc.goL mt_1007 0 (f2 := (if r1 = 0 then 22 else 8, [.ref 179, .int x1], [], gm M2)) (b := true) rfl rfl ?_
    rw [if_pos h6]
    refine Rc.goL mt_1007 0 (f2 := (23, [.ref 179, .int x1], [.int (0 : Int32)], gm M2)) (b := true) rfl rfl ?_
    obtain ⟨e1, e2⟩ := some_p hs; subst e1; subst e2
    exact Rc.ret (v := some (.int (0 : Int32))) rfl rfl
  · rw [if_neg h6] at hs
    refine Rc.goL mt_1007 0 (f2 := (if r1 = 0 then 22 else 8, [.ref 179, .int x1], [], gm M2)) (b := true) rfl rfl ?_
    rw [if_neg h6]
    obtain ⟨hb4, hs⟩ := ck_some hs
    by_cases h5 : (M2.1 185 (Int32.toNatClampNeg x1)) = (-1 : Int32)
    · rw [if_pos h5] at hs
      refine Rc.goL mt_1007 5 (f2 := (if (M2.1 185 (Int32.toNatClampNeg x1)) = (-1 : Int32) then 22 else 18, [.ref 179, .int x1], [], gm M2)) (b := (ib 16 x1 && true)) rfl hb4 ?_
      rw [if_pos h5]
      refine Rc.goL mt_1007 0 (f2 := (23, [.ref 179, .int x1], [.int (0 : Int32)], gm M2)) (b := true) rfl rfl ?_
      obtain ⟨e1, e2⟩ := some_p hs; subst e1; subst e2
      exact Rc.ret (v := some (.int (0 : Int32))) rfl rfl
    · rw [if_neg h5] at hs
      refine Rc.goL mt_1007 5 (f2 := (if (M2.1 185 (Int32.toNatClampNeg x1)) = (-1 : Int32) then 22 else 18, [.ref 179, .int x1], [], gm M2)) (b := (ib 16 x1 && true)) rfl hb4 ?_
      rw [if_neg h5]
      refine Rc.goL mt_1007 1 (f2 := (23, [.ref 179, .int x1], [.int (1 : Int32)], gm M2)) (b := true) rfl rfl ?_
      obtain ⟨e1, e2⟩ := some_p hs; subst e1; subst e2
      exact Rc.ret (v := some (.int (1 : Int32))) rfl rfl
def qtn_isForHire (x1 : Int32) (M : SM) : Option (Int32 × SM) :=
  ob (qtn_hasFrame x1 M) (fun r1 M2 =>
  if r1 = 0 then
  (some ((0 : Int32), M2)) else
  (ck (ib 16 x1 && true) (
    if (M2.1 185 (Int32.toNatClampNeg x1)) = (-1 : Int32) then
    (some ((1 : Int32), M2)) else
    (some ((0 : Int32), M2)))))
theorem mt_1008 : MT 1008 K_1008 LN_10 := ⟨rfl, rfl, by decide +kernel⟩
theorem okm_1008 : OKm 1008 := ⟨⟨vE_1008, okL_10, by decide +kernel⟩, by decide +kernel, by decide +kernel, by decide +kernel⟩
set_option maxRecDepth 20000 in
theorem qtn_isForHire_ok (d : Nat) (hd : 2 ≤ d) {x1 : Int32} {M : SM} {r : Int32} {Mz : SM} (hs : qtn_isForHire x1 M = some (r, Mz)) : Ex d 1008 [.ref 179, .int x1] (gm M) (some (.int r), gm Mz) := by
  obtain ⟨d, rfl⟩ : ∃ d0, d = d0 + 1 := ⟨d - 1, by omega⟩
  refine Ex.of okm_1008 (by omega) (Nat.le_of_ble_eq_true rfl) ?_
  show Rc (d + 1) 1008 (0, [.ref 179, .int x1], [], gm M) _
  unfold qtn_isForHire at hs
  refine Rc.goL mt_1008 1 (f2 := (2, [.ref 179, .int x1], [.int x1, .ref 179], gm M)) (b := true) rfl rfl ?_
  obtain ⟨r1, M2, he3, hs⟩ := ob_some hs
  refine Rc.callV (i := 56) (mid' := 1004) (av := [.int x1]) (rest := []) (v := some (.int r1)) (M1 := gm M2) (a := 179) rfl rfl rfl cw_1004 rfl (Nat.le_of_ble_eq_true rfl) rfl (Nat.le_of_ble_eq_true rfl) (qtn_hasFrame_ok _ (by omega) he3) ?_
  by_cases h6 : r1 = 0
  · rw [if_pos h6] at hs
    refine Rc.goL mt_1008 0 (f2 := (if r1 = 0 then 22 else 8, [.ref 179, .int x1], [], gm M2)) (b := true) rfl rfl ?_
    rw [if_pos h6]
    refine Rc.goL mt_1008 0 (f2 := (23, [.ref 179, .int x1], [.int (0 : Int32)], gm M2)) (b := true) rfl rfl ?_
    obtain ⟨e1, e2⟩ := some_p hs; subst e1; subst e2
    exact Rc.ret (v := some (.int (0 : Int32))) rfl rfl
  · rw [if_neg h6] at hs
    refine Rc.goL mt_1008 0 (f2 := (if r1 = 0 then 22 else 8, [.ref 179, .int x1], [], gm M2)) (b := true) rfl rfl ?_
    rw [if_neg h6]
    obtain ⟨hb4, hs⟩ := ck_some hs
    by_cases h5 : (M2.1 185 (Int32.toNatClampNeg x1)) = (-1 : Int32)
    · rw [if_pos h5] at hs
      refine Rc.goL mt_1008 5 (f2 := (if (M2.1 185 (Int32.toNatClampNeg x1)) = (-1 : Int32) then 18 else 22, [.ref 179, .int x1], [], gm M2)) (b := (ib 16 x1 && true)) rfl hb4 ?_
      rw [if_pos h5]
      refine Rc.goL mt_1008 1 (f2 := (23, [.ref 179, .int x1], [.int (1 : Int32)], gm M2)) (b := true) rfl rfl ?_
      obtain ⟨e1, e2⟩ := some_p hs; subst e1; subst e2
      exact Rc.ret (v := some (.int (1 : Int32))) rfl rfl
    · rw [if_neg h5] at hs
      refine Rc.goL mt_1008 5 (f2 := (if (M2.1 185 (Int32.toNatClampNeg x1)) = (-1 : Int32) then 18 else 22, [.ref 179, .int x1], [], gm M2)) (b := (ib 16 x1 && true)) rfl hb4 ?_
      rw [if_neg h5]
      refine Rc.goL mt_1008 0 (f2 := (23, [.ref 179, .int x1], [.int (0 : Int32)], gm M2)) (b := true) rfl rfl ?_
      obtain ⟨e1, e2⟩ := some_p hs; subst e1; subst e2
      exact Rc.ret (v := some (.int (0 : Int32))) rfl rfl
def qtn_addMaster (x1 : Int32) (M : SM) : Option (Int32 × SM) :=
  if (M.1 179 1) < 0 then
  (some ((-1 : Int32), M)) else
  (if (M.1 179 1) < (6 : Int32) then
    (ck (ib 6 (M.1 179 1) && true) (
      some ((((M.1 179 1) + (1 : Int32)) - (1 : Int32)), (wI (wI M 180 (Int32.toNatClampNeg (M.1 179 1)) x1) 179 1 ((M.1 179 1) + (1 : Int32)))))) else
    (some ((-1 : Int32), M)))
theorem mt_1009 : MT 1009 K_1009 LN_10 := ⟨rfl, rfl, by decide +kernel⟩
theorem okm_1009 : OKm 1009 := ⟨⟨vE_1009, okL_10, by decide +kernel⟩, by decide +kernel, by decide +kernel, by decide +kernel⟩
set_option maxRecDepth 20000 in
theorem qtn_addMaster_ok (d : Nat) (hd : 1 ≤ d) {x1 : Int32} {M : SM} {r : Int32} {Mz : SM} (hs : qtn_addMaster x1 M = some (r, Mz)) : Ex d 1009 [.ref 179, .int x1] (gm M) (some (.int r), gm Mz) := by
  obtain ⟨d, rfl⟩ : ∃ d0, d = d0 + 1 := ⟨d - 1, by omega⟩
  refine Ex.of okm_1009 (by omega) (Nat.le_of_ble_eq_true rfl) ?_
  show Rc (d + 1) 1009 (0, [.ref 179, .int x1], [], gm M) _
  unfold qtn_addMaster at hs
  by_cases h3 : (M.1 179 1) < 0
  · rw [if_pos h3] at hs
    refine Rc.goL mt_1009 2 (f2 := (if (M.1 179 1) < 0 then 16 else 7, [.ref 179, .int x1], [], gm M)) (b := true) rfl rfl ?_
    rw [if_pos h3]
    refine Rc.goL mt_1009 0 (f2 := (17, [.ref 179, .int x1], [.int (-1 : Int32)], gm M)) (b := true) rfl rfl ?_
    obtain ⟨e1, e2⟩ := some_p hs; subst e1; subst e2
    exact Rc.ret (v := some (.int (-1 : Int32))) rfl rfl
  · rw [if_neg h3] at hs
    refine Rc.goL mt_1009 2 (f2 := (if (M.1 179 1) < 0 then 16 else 7, [.ref 179, .int x1], [], gm M)) (b := true) rfl rfl ?_
    rw [if_neg h3]
    by_cases h2 : (M.1 179 1) < (6 : Int32)
    · rw [if_pos h2] at hs
      refine Rc.goL mt_1009 3 (f2 := (if (M.1 179 1) < (6 : Int32) then 18 else 16, [.ref 179, .int x1], [], gm M)) (b := true) rfl rfl ?_
      rw [if_pos h2]
      obtain ⟨hb1, hs⟩ := ck_some hs
      obtain ⟨hb1_0, hb1⟩ := and_t hb1
      refine Rc.goL mt_1009 5 (f2 := (28, [.ref 179, .int x1], [], gm (wI M 180 (Int32.toNatClampNeg (M.1 179 1)) x1))) (b := (ib 6 (M.1 179 1) && true)) rfl (and_i hb1_0 rfl) ?_
      refine Rc.goL mt_1009 5 (f2 := (38, [.ref 179, .int x1], [], gm (wI (wI M 180 (Int32.toNatClampNeg (M.1 179 1)) x1) 179 1 ((M.1 179 1) + (1 : Int32))))) (b := true) rfl rfl ?_
      refine Rc.goL mt_1009 3 (f2 := (44, [.ref 179, .int x1], [.int (((M.1 179 1) + (1 : Int32)) - (1 : Int32))], gm (wI (wI M 180 (Int32.toNatClampNeg (M.1 179 1)) x1) 179 1 ((M.1 179 1) + (1 : Int32))))) (b := true) rfl rfl ?_
      obtain ⟨e1, e2⟩ := some_p hs; subst e1; subst e2
      exact Rc.ret (v := some (.int (((M.1 179 1) + (1 : Int32)) - (1 : Int32)))) rfl rfl
    · rw [if_neg h2] at hs
      refine Rc.goL mt_1009 3 (f2 := (if (M.1 179 1) < (6 : Int32) then 18 else 16, [.ref 179, .int x1], [], gm M)) (b := true) rfl rfl ?_
      rw [if_neg h2]
      refine Rc.goL mt_1009 0 (f2 := (17, [.ref 179, .int x1], [.int (-1 : Int32)], gm M)) (b := true) rfl rfl ?_
      obtain ⟨e1, e2⟩ := some_p hs; subst e1; subst e2
      exact Rc.ret (v := some (.int (-1 : Int32))) rfl rfl
def qtn_addKnitter (x1 : Int32) (M : SM) : Option (Int32 × SM) :=
  if (M.1 179 2) < 0 then
  (some ((-1 : Int32), M)) else
  (if (M.1 179 2) < (12 : Int32) then
    (ck (ib 12 (M.1 179 2) && true) (
      some ((((M.1 179 2) + (1 : Int32)) - (1 : Int32)), (wI (wI M 182 (Int32.toNatClampNeg (M.1 179 2)) x1) 179 2 ((M.1 179 2) + (1 : Int32)))))) else
    (some ((-1 : Int32), M)))
theorem mt_1010 : MT 1010 K_1010 LN_10 := ⟨rfl, rfl, by decide +kernel⟩
theorem okm_1010 : OKm 1010 := ⟨⟨vE_1010, okL_10, by decide +kernel⟩, by decide +kernel, by decide +kernel, by decide +kernel⟩
set_option maxRecDepth 20000 in
theorem qtn_addKnitter_ok (d : Nat) (hd : 1 ≤ d) {x1 : Int32} {M : SM} {r : Int32} {Mz : SM} (hs : qtn_addKnitter x1 M = some (r, Mz)) : Ex d 1010 [.ref 179, .int x1] (gm M) (some (.int r), gm Mz) := by
  obtain ⟨d, rfl⟩ : ∃ d0, d = d0 + 1 := ⟨d - 1, by omega⟩
  refine Ex.of okm_1010 (by omega) (Nat.le_of_ble_eq_true rfl) ?_
  show Rc (d + 1) 1010 (0, [.ref 179, .int x1], [], gm M) _
  unfold qtn_addKnitter at hs
  by_cases h3 : (M.1 179 2) < 0
  · rw [if_pos h3] at hs
    refine Rc.goL mt_1010 2 (f2 := (if (M.1 179 2) < 0 then 16 else 7, [.ref 179, .int x1], [], gm M)) (b := true) rfl rfl ?_
    rw [if_pos h3]
    refine Rc.goL mt_1010 0 (f2 := (17, [.ref 179, .int x1], [.int (-1 : Int32)], gm M)) (b := true) rfl rfl ?_
    obtain ⟨e1, e2⟩ := some_p hs; subst e1; subst e2
    exact Rc.ret (v := some (.int (-1 : Int32))) rfl rfl
  · rw [if_neg h3] at hs
    refine Rc.goL mt_1010 2 (f2 := (if (M.1 179 2) < 0 then 16 else 7, [.ref 179, .int x1], [], gm M)) (b := true) rfl rfl ?_
    rw [if_neg h3]
    by_cases h2 : (M.1 179 2) < (12 : Int32)
    · rw [if_pos h2] at hs
      refine Rc.goL mt_1010 3 (f2 := (if (M.1 179 2) < (12 : Int32) then 18 else 16, [.ref 179, .int x1], [], gm M)) (b := true) rfl rfl ?_
      rw [if_pos h2]
      obtain ⟨hb1, hs⟩ := ck_some hs
      obtain ⟨hb1_0, hb1⟩ := and_t hb1
      refine Rc.goL mt_1010 5 (f2 := (28, [.ref 179, .int x1], [], gm (wI M 182 (Int32.toNatClampNeg (M.1 179 2)) x1))) (b := (ib 12 (M.1 179 2) && true)) rfl (and_i hb1_0 rfl) ?_
      refine Rc.goL mt_1010 5 (f2 := (38, [.ref 179, .int x1], [], gm (wI (wI M 182 (Int32.toNatClampNeg (M.1 179 2)) x1) 179 2 ((M.1 179 2) + (1 : Int32))))) (b := true) rfl rfl ?_
      refine Rc.goL mt_1010 3 (f2 := (44, [.ref 179, .int x1], [.int (((M.1 179 2) + (1 : Int32)) - (1 : Int32))], gm (wI (wI M 182 (Int32.toNatClampNeg (M.1 179 2)) x1) 179 2 ((M.1 179 2) + (1 : Int32))))) (b := true) rfl rfl ?_
      obtain ⟨e1, e2⟩ := some_p hs; subst e1; subst e2
      exact Rc.ret (v := some (.int (((M.1 179 2) + (1 : Int32)) - (1 : Int32)))) rfl rfl
    · rw [if_neg h2] at hs
      refine Rc.goL mt_1010 3 (f2 := (if (M.1 179 2) < (12 : Int32) then 18 else 16, [.ref 179, .int x1], [], gm M)) (b := true) rfl rfl ?_
      rw [if_neg h2]
      refine Rc.goL mt_1010 0 (f2 := (17, [.ref 179, .int x1], [.int (-1 : Int32)], gm M)) (b := true) rfl rfl ?_
      obtain ⟨e1, e2⟩ := some_p hs; subst e1; subst e2
      exact Rc.ret (v := some (.int (-1 : Int32))) rfl rfl
def qtn_addFrame (x1 : Int32) (x2 : Int32) (x3 : Int32) (M : SM) : Option (Int32 × SM) :=
  if (M.1 179 3) < 0 then
  (some ((-1 : Int32), M)) else
  (if (M.1 179 3) < (16 : Int32) then
    (ck (ib 16 (M.1 179 3) && (ib 16 (M.1 179 3) && (ib 16 (M.1 179 3) && (ib 16 (M.1 179 3) && true)))) (
      ob (qtn_fill (187 + (Int32.toNatClampNeg (M.1 179 3))) (0 : Int32) x3 (wI (wI (wI M 183 (Int32.toNatClampNeg (M.1 179 3)) x1) 184 (Int32.toNatClampNeg (M.1 179 3)) x2) 185 (Int32.toNatClampNeg (M.1 179 3)) x3)) (fun _ M2 =>
      some ((((M2.1 179 3) + (1 : Int32)) - (1 : Int32)), (wI M2 179 3 ((M2.1 179 3) + (1 : Int32))))))) else
    (some ((-1 : Int32), M)))
theorem mt_1011 : MT 1011 K_1011 LN_10 := ⟨rfl, rfl, by decide +kernel⟩
theorem okm_1011 : OKm 1011 := ⟨⟨vE_1011, okL_10, by decide +kernel⟩, by decide +kernel, by decide +kernel, by decide +kernel⟩
set_option maxRecDepth 20000 in
theorem qtn_addFrame_ok (d : Nat) (hd : 2 ≤ d) {x1 : Int32} {x2 : Int32} {x3 : Int32} {M : SM} {r : Int32} {Mz : SM} (hs : qtn_addFrame x1 x2 x3 M = some (r, Mz)) : Ex d 1011 [.ref 179, .int x1, .int x2, .int x3] (gm M) (some (.int r), gm Mz) := by
  obtain ⟨d, rfl⟩ : ∃ d0, d = d0 + 1 := ⟨d - 1, by omega⟩
  refine Ex.of okm_1011 (by omega) (Nat.le_of_ble_eq_true rfl) ?_
  show Rc (d + 1) 1011 (0, [.ref 179, .int x1, .int x2, .int x3], [], gm M) _
  unfold qtn_addFrame at hs
  by_cases h6 : (M.1 179 3) < 0
  · rw [if_pos h6] at hs
    refine Rc.goL mt_1011 2 (f2 := (if (M.1 179 3) < 0 then 16 else 7, [.ref 179, .int x1, .int x2, .int x3], [], gm M)) (b := true) rfl rfl ?_
    rw [if_pos h6]
    refine Rc.goL mt_1011 0 (f2 := (17, [.ref 179, .int x1, .int x2, .int x3], [.int (-1 : Int32)], gm M)) (b := true) rfl rfl ?_
    obtain ⟨e1, e2⟩ := some_p hs; subst e1; subst e2
    exact Rc.ret (v := some (.int (-1 : Int32))) rfl rfl
  · rw [if_neg h6] at hs
    refine Rc.goL mt_1011 2 (f2 := (if (M.1 179 3) < 0 then 16 else 7, [.ref 179, .int x1, .int x2, .int x3], [], gm M)) (b := true) rfl rfl ?_
    rw [if_neg h6]
    by_cases h5 : (M.1 179 3) < (16 : Int32)
    · rw [if_pos h5] at hs
      refine Rc.goL mt_1011 3 (f2 := (if (M.1 179 3) < (16 : Int32) then 18 else 16, [.ref 179, .int x1, .int x2, .int x3], [], gm M)) (b := true) rfl rfl ?_
      rw [if_pos h5]
      obtain ⟨hb1, hs⟩ := ck_some hs
      obtain ⟨hb1_0, hb1⟩ := and_t hb1
      obtain ⟨hb1_1, hb1⟩ := and_t hb1
      obtain ⟨hb1_2, hb1⟩ := and_t hb1
      obtain ⟨hb1_3, hb1⟩ := and_t hb1
      refine Rc.goL mt_1011 5 (f2 := (28, [.ref 179, .int x1, .int x2, .int x3], [], gm (wI M 183 (Int32.toNatClampNeg (M.1 179 3)) x1))) (b := (ib 16 (M.1 179 3) && true)) rfl (and_i hb1_0 rfl) ?_
      refine Rc.goL mt_1011 5 (f2 := (38, [.ref 179, .int x1, .int x2, .int x3], [], gm (wI (wI M 183 (Int32.toNatClampNeg (M.1 179 3)) x1) 184 (Int32.toNatClampNeg (M.1 179 3)) x2))) (b := (ib 16 (M.1 179 3) && true)) rfl (and_i hb1_1 rfl) ?_
      refine Rc.goL mt_1011 5 (f2 := (48, [.ref 179, .int x1, .int x2, .int x3], [], gm (wI (wI (wI M 183 (Int32.toNatClampNeg (M.1 179 3)) x1) 184 (Int32.toNatClampNeg (M.1 179 3)) x2) 185 (Int32.toNatClampNeg (M.1 179 3)) x3))) (b := (ib 16 (M.1 179 3) && true)) rfl (and_i hb1_2 rfl) ?_
      refine Rc.goL mt_1011 6 (f2 := (59, [.ref 179, .int x1, .int x2, .int x3], [.int x3, .int (0 : Int32), .ref (187 + (Int32.toNatClampNeg (M.1 179 3)))], gm (wI (wI (wI M 183 (Int32.toNatClampNeg (M.1 179 3)) x1) 184 (Int32.toNatClampNeg (M.1 179 3)) x2) 185 (Int32.toNatClampNeg (M.1 179 3)) x3))) (b := (ib 16 (M.1 179 3) && true)) rfl (and_i hb1_3 rfl) ?_
      obtain ⟨u4, M2, he3, hs⟩ := ob_some hs
      refine Rc.callS (i := 38) (mid' := 1001) (av := [.ref (187 + (Int32.toNatClampNeg (M.1 179 3))), .int (0 : Int32), .int x3]) (rest := []) (v := none) (M1 := gm M2) rfl (Or.inl rfl) rfl cw_1001 rfl (Nat.le_of_ble_eq_true rfl) (qtn_fill_ok _ (by omega) he3) ?_
      refine Rc.goL mt_1011 5 (f2 := (72, [.ref 179, .int x1, .int x2, .int x3], [], gm (wI M2 179 3 ((M2.1 179 3) + (1 : Int32))))) (b := true) rfl rfl ?_
      refine Rc.goL mt_1011 3 (f2 := (78, [.ref 179, .int x1, .int x2, .int x3], [.int (((M2.1 179 3) + (1 : Int32)) - (1 : Int32))], gm (wI M2 179 3 ((M2.1 179 3) + (1 : Int32))))) (b := true) rfl rfl ?_
      obtain ⟨e1, e2⟩ := some_p hs; subst e1; subst e2
      exact Rc.ret (v := some (.int (((M2.1 179 3) + (1 : Int32)) - (1 : Int32)))) rfl rfl
    · rw [if_neg h5] at hs
      refine Rc.goL mt_1011 3 (f2 := (if (M.1 179 3) < (16 : Int32) then 18 else 16, [.ref 179, .int x1, .int x2, .int x3], [], gm M)) (b := true) rfl rfl ?_
      rw [if_neg h5]
      refine Rc.goL mt_1011 0 (f2 := (17, [.ref 179, .int x1, .int x2, .int x3], [.int (-1 : Int32)], gm M)) (b := true) rfl rfl ?_
      obtain ⟨e1, e2⟩ := some_p hs; subst e1; subst e2
      exact Rc.ret (v := some (.int (-1 : Int32))) rfl rfl
def qtn_holdFromNow (x1 : Int32) (x2 : Int32) (M : SM) : Option (Unit × SM) :=
  ob (qtn_hasFrame x1 M) (fun r1 M2 =>
  if r1 = 0 then
  (some ((), M2)) else
  (ck (ib 16 x1 && true) (
    ob (qtn_fill (187 + (Int32.toNatClampNeg x1)) (M2.1 179 0) x2 M2) (fun _ M5 =>
    some ((), M5)))))
theorem mt_1012 : MT 1012 K_1012 LN_10 := ⟨rfl, rfl, by decide +kernel⟩
theorem okm_1012 : OKm 1012 := ⟨⟨vE_1012, okL_10, by decide +kernel⟩, by decide +kernel, by decide +kernel, by decide +kernel⟩
set_option maxRecDepth 20000 in
theorem qtn_holdFromNow_ok (d : Nat) (hd : 2 ≤ d) {x1 : Int32} {x2 : Int32} {M : SM} {r : Unit} {Mz : SM} (hs : qtn_holdFromNow x1 x2 M = some (r, Mz)) : Ex d 1012 [.ref 179, .int x1, .int x2] (gm M) (none, gm Mz) := by
  obtain ⟨d, rfl⟩ : ∃ d0, d = d0 + 1 := ⟨d - 1, by omega⟩
  refine Ex.of okm_1012 (by omega) (Nat.le_of_ble_eq_true rfl) ?_
  show Rc (d + 1) 1012 (0, [.ref 179, .int x1, .int x2], [], gm M) _
  unfold qtn_holdFromNow at hs
  refine Rc.goL mt_1012 1 (f2 := (2, [.ref 179, .int x1, .int x2], [.int x1, .ref 179], gm M)) (b := true) rfl rfl ?_
  obtain ⟨r1, M2, he3, hs⟩ := ob_some hs
  refine Rc.callV (i := 56) (mid' := 1004) (av := [.int x1]) (rest := []) (v := some (.int r1)) (M1 := gm M2) (a := 179) rfl rfl rfl cw_1004 rfl (Nat.le_of_ble_eq_true rfl) rfl (Nat.le_of_ble_eq_true rfl) (qtn_hasFrame_ok _ (by omega) he3) ?_
  by_cases h8 : r1 = 0
  · rw [if_pos h8] at hs
    refine Rc.goL mt_1012 0 (f2 := (if r1 = 0 then 22 else 8, [.ref 179, .int x1, .int x2], [], gm M2)) (b := true) rfl rfl ?_
    rw [if_pos h8]
    obtain ⟨e1, e2⟩ := some_p hs; subst e1; subst e2
    exact Rc.ret (v := none) rfl rfl
  · rw [if_neg h8] at hs
    refine Rc.goL mt_1012 0 (f2 := (if r1 = 0 then 22 else 8, [.ref 179, .int x1, .int x2], [], gm M2)) (b := true) rfl rfl ?_
    rw [if_neg h8]
    obtain ⟨hb4, hs⟩ := ck_some hs
    obtain ⟨hb4_0, hb4⟩ := and_t hb4
    refine Rc.goL mt_1012 6 (f2 := (19, [.ref 179, .int x1, .int x2], [.int x2, .int (M2.1 179 0), .ref (187 + (Int32.toNatClampNeg x1))], gm M2)) (b := (ib 16 x1 && true)) rfl (and_i hb4_0 rfl) ?_
    obtain ⟨u7, M5, he6, hs⟩ := ob_some hs
    refine Rc.callS (i := 38) (mid' := 1001) (av := [.ref (187 + (Int32.toNatClampNeg x1)), .int (M2.1 179 0), .int x2]) (rest := []) (v := none) (M1 := gm M5) rfl (Or.inl rfl) rfl cw_1001 rfl (Nat.le_of_ble_eq_true rfl) (qtn_fill_ok _ (by omega) he6) ?_
    obtain ⟨e1, e2⟩ := some_p hs; subst e1; subst e2
    exact Rc.ret (v := none) rfl rfl
def qtn_listFromNow (x1 : Int32) (x2 : Int32) (M : SM) : Option (Unit × SM) :=
  ob (qtn_hasMaster x1 M) (fun r1 M2 =>
  if r1 = 0 then
  (some ((), M2)) else
  (ck (ib 6 x1 && true) (
    ob (qtn_fill (204 + (Int32.toNatClampNeg x1)) (M2.1 179 0) x2 M2) (fun _ M5 =>
    some ((), M5)))))
theorem mt_1013 : MT 1013 K_1013 LN_10 := ⟨rfl, rfl, by decide +kernel⟩
theorem okm_1013 : OKm 1013 := ⟨⟨vE_1013, okL_10, by decide +kernel⟩, by decide +kernel, by decide +kernel, by decide +kernel⟩
set_option maxRecDepth 20000 in
theorem qtn_listFromNow_ok (d : Nat) (hd : 2 ≤ d) {x1 : Int32} {x2 : Int32} {M : SM} {r : Unit} {Mz : SM} (hs : qtn_listFromNow x1 x2 M = some (r, Mz)) : Ex d 1013 [.ref 179, .int x1, .int x2] (gm M) (none, gm Mz) := by
  obtain ⟨d, rfl⟩ : ∃ d0, d = d0 + 1 := ⟨d - 1, by omega⟩
  refine Ex.of okm_1013 (by omega) (Nat.le_of_ble_eq_true rfl) ?_
  show Rc (d + 1) 1013 (0, [.ref 179, .int x1, .int x2], [], gm M) _
  unfold qtn_listFromNow at hs
  refine Rc.goL mt_1013 1 (f2 := (2, [.ref 179, .int x1, .int x2], [.int x1, .ref 179], gm M)) (b := true) rfl rfl ?_
  obtain ⟨r1, M2, he3, hs⟩ := ob_some hs
  refine Rc.callV (i := 52) (mid' := 1002) (av := [.int x1]) (rest := []) (v := some (.int r1)) (M1 := gm M2) (a := 179) rfl rfl rfl cw_1002 rfl (Nat.le_of_ble_eq_true rfl) rfl (Nat.le_of_ble_eq_true rfl) (qtn_hasMaster_ok _ (by omega) he3) ?_
  by_cases h8 : r1 = 0
  · rw [if_pos h8] at hs
    refine Rc.goL mt_1013 0 (f2 := (if r1 = 0 then 22 else 8, [.ref 179, .int x1, .int x2], [], gm M2)) (b := true) rfl rfl ?_
    rw [if_pos h8]
    obtain ⟨e1, e2⟩ := some_p hs; subst e1; subst e2
    exact Rc.ret (v := none) rfl rfl
  · rw [if_neg h8] at hs
    refine Rc.goL mt_1013 0 (f2 := (if r1 = 0 then 22 else 8, [.ref 179, .int x1, .int x2], [], gm M2)) (b := true) rfl rfl ?_
    rw [if_neg h8]
    obtain ⟨hb4, hs⟩ := ck_some hs
    obtain ⟨hb4_0, hb4⟩ := and_t hb4
    refine Rc.goL mt_1013 6 (f2 := (19, [.ref 179, .int x1, .int x2], [.int x2, .int (M2.1 179 0), .ref (204 + (Int32.toNatClampNeg x1))], gm M2)) (b := (ib 6 x1 && true)) rfl (and_i hb4_0 rfl) ?_
    obtain ⟨u7, M5, he6, hs⟩ := ob_some hs
    refine Rc.callS (i := 38) (mid' := 1001) (av := [.ref (204 + (Int32.toNatClampNeg x1)), .int (M2.1 179 0), .int x2]) (rest := []) (v := none) (M1 := gm M5) rfl (Or.inl rfl) rfl cw_1001 rfl (Nat.le_of_ble_eq_true rfl) (qtn_fill_ok _ (by omega) he6) ?_
    obtain ⟨e1, e2⟩ := some_p hs; subst e1; subst e2
    exact Rc.ret (v := none) rfl rfl
def qtn_holderAt (x1 : Int32) (x2 : Int32) (M : SM) : Option (Int32 × SM) :=
  ob (qtn_hasFrame x1 M) (fun r1 M2 =>
  if r1 = 0 then
  (some ((-1 : Int32), M2)) else
  (ob (qfr_isWeek x2 M2) (fun r4 M5 =>
    if r4 = 0 then
    (some ((-1 : Int32), M5)) else
    (ck (ib 16 x1 && (av 336 20 (187 + (Int32.toNatClampNeg x1)) x2 && true)) (
      some ((M5.1 (187 + (Int32.toNatClampNeg x1)) (Int32.toNatClampNeg x2)), M5))))))
theorem mt_1014 : MT 1014 K_1014 LN_10 := ⟨rfl, rfl, by decide +kernel⟩
theorem okm_1014 : OKm 1014 := ⟨⟨vE_1014, okL_10, by decide +kernel⟩, by decide +kernel, by decide +kernel, by decide +kernel⟩
set_option maxRecDepth 20000 in
theorem qtn_holderAt_ok (d : Nat) (hd : 2 ≤ d) {x1 : Int32} {x2 : Int32} {M : SM} {r : Int32} {Mz : SM} (hs : qtn_holderAt x1 x2 M = some (r, Mz)) : Ex d 1014 [.ref 179, .int x1, .int x2] (gm M) (some (.int r), gm Mz) := by
  obtain ⟨d, rfl⟩ : ∃ d0, d = d0 + 1 := ⟨d - 1, by omega⟩
  refine Ex.of okm_1014 (by omega) (Nat.le_of_ble_eq_true rfl) ?_
  show Rc (d + 1) 1014 (0, [.ref 179, .int x1, .int x2], [], gm M) _
  unfold qtn_holderAt at hs
  refine Rc.goL mt_1014 1 (f2 := (2, [.ref 179, .int x1, .int x2], [.int x1, .ref 179], gm M)) (b := true) rfl rfl ?_
  obtain ⟨r1, M2, he3, hs⟩ := ob_some hs
  refine Rc.callV (i := 56) (mid' := 1004) (av := [.int x1]) (rest := []) (v := some (.int r1)) (M1 := gm M2) (a := 179) rfl rfl rfl cw_1004 rfl (Nat.le_of_ble_eq_true rfl) rfl (Nat.le_of_ble_eq_true rfl) (qtn_hasFrame_ok _ (by omega) he3) ?_
  by_cases h9 : r1 = 0
  · rw [if_pos h9] at hs
    refine Rc.goL mt_1014 0 (f2 := (if r1 = 0 then 26 else 8, [.ref 179, .int x1, .int x2], [], gm M2)) (b := true) rfl rfl ?_
    rw [if_pos h9]
    refine Rc.goL mt_1014 0 (f2 := (27, [.ref 179, .int x1, .int x2], [.int (-1 : Int32)], gm M2)) (b := true) rfl rfl ?_
    obtain ⟨e1, e2⟩ := some_p hs; subst e1; subst e2
    exact Rc.ret (v := some (.int (-1 : Int32))) rfl rfl
  · rw [if_neg h9] at hs
    refine Rc.goL mt_1014 0 (f2 := (if r1 = 0 then 26 else 8, [.ref 179, .int x1, .int x2], [], gm M2)) (b := true) rfl rfl ?_
    rw [if_neg h9]
    refine Rc.goL mt_1014 0 (f2 := (9, [.ref 179, .int x1, .int x2], [.int x2], gm M2)) (b := true) rfl rfl ?_
    obtain ⟨r4, M5, he6, hs⟩ := ob_some hs
    refine Rc.callS (i := 62) (mid' := 1138) (av := [.int x2]) (rest := []) (v := some (.int r4)) (M1 := gm M5) rfl (Or.inr rfl) rfl cw_1138 rfl (Nat.le_of_ble_eq_true rfl) (qfr_isWeek_ok _ (by omega) he6) ?_
    by_cases h8 : r4 = 0
    · rw [if_pos h8] at hs
      refine Rc.goL mt_1014 0 (f2 := (if r4 = 0 then 26 else 15, [.ref 179, .int x1, .int x2], [], gm M5)) (b := true) rfl rfl ?_
      rw [if_pos h8]
      refine Rc.goL mt_1014 0 (f2 := (27, [.ref 179, .int x1, .int x2], [.int (-1 : Int32)], gm M5)) (b := true) rfl rfl ?_
      obtain ⟨e1, e2⟩ := some_p hs; subst e1; subst e2
      exact Rc.ret (v := some (.int (-1 : Int32))) rfl rfl
    · rw [if_neg h8] at hs
      refine Rc.goL mt_1014 0 (f2 := (if r4 = 0 then 26 else 15, [.ref 179, .int x1, .int x2], [], gm M5)) (b := true) rfl rfl ?_
      rw [if_neg h8]
      obtain ⟨hb7, hs⟩ := ck_some hs
      refine Rc.goL mt_1014 6 (f2 := (27, [.ref 179, .int x1, .int x2], [.int (M5.1 (187 + (Int32.toNatClampNeg x1)) (Int32.toNatClampNeg x2))], gm M5)) (b := (ib 16 x1 && (av 336 20 (187 + (Int32.toNatClampNeg x1)) x2 && true))) rfl hb7 ?_
      obtain ⟨e1, e2⟩ := some_p hs; subst e1; subst e2
      exact Rc.ret (v := some (.int (M5.1 (187 + (Int32.toNatClampNeg x1)) (Int32.toNatClampNeg x2)))) rfl rfl
def qtn_listIn (x1 : Int32) (x2 : Int32) (M : SM) : Option (Int32 × SM) :=
  ob (qtn_hasMaster x1 M) (fun r1 M2 =>
  if r1 = 0 then
  (some ((-1 : Int32), M2)) else
  (ob (qfr_isWeek x2 M2) (fun r4 M5 =>
    if r4 = 0 then
    (some ((-1 : Int32), M5)) else
    (ck (ib 6 x1 && (av 336 20 (204 + (Int32.toNatClampNeg x1)) x2 && true)) (
      some ((M5.1 (204 + (Int32.toNatClampNeg x1)) (Int32.toNatClampNeg x2)), M5))))))
theorem mt_1015 : MT 1015 K_1015 LN_10 := ⟨rfl, rfl, by decide +kernel⟩
theorem okm_1015 : OKm 1015 := ⟨⟨vE_1015, okL_10, by decide +kernel⟩, by decide +kernel, by decide +kernel, by decide +kernel⟩
set_option maxRecDepth 20000 in
theorem qtn_listIn_ok (d : Nat) (hd : 2 ≤ d) {x1 : Int32} {x2 : Int32} {M : SM} {r : Int32} {Mz : SM} (hs : qtn_listIn x1 x2 M = some (r, Mz)) : Ex d 1015 [.ref 179, .int x1, .int x2] (gm M) (some (.int r), gm Mz) := by
  obtain ⟨d, rfl⟩ : ∃ d0, d = d0 + 1 := ⟨d - 1, by omega⟩
  refine Ex.of okm_1015 (by omega) (Nat.le_of_ble_eq_true rfl) ?_
  show Rc (d + 1) 1015 (0, [.ref 179, .int x1, .int x2], [], gm M) _
  unfold qtn_listIn at hs
  refine Rc.goL mt_1015 1 (f2 := (2, [.ref 179, .int x1, .int x2], [.int x1, .ref 179], gm M)) (b := true) rfl rfl ?_
  obtain ⟨r1, M2, he3, hs⟩ := ob_some hs
  refine Rc.callV (i := 52) (mid' := 1002) (av := [.int x1]) (rest := []) (v := some (.int r1)) (M1 := gm M2) (a := 179) rfl rfl rfl cw_1002 rfl (Nat.le_of_ble_eq_true rfl) rfl (Nat.le_of_ble_eq_true rfl) (qtn_hasMaster_ok _ (by omega) he3) ?_
  by_cases h9 : r1 = 0
  · rw [if_pos h9] at hs
    refine Rc.goL mt_1015 0 (f2 := (if r1 = 0 then 26 else 8, [.ref 179, .int x1, .int x2], [], gm M2)) (b := true) rfl rfl ?_
    rw [if_pos h9]
    refine Rc.goL mt_1015 0 (f2 := (27, [.ref 179, .int x1, .int x2], [.int (-1 : Int32)], gm M2)) (b := true) rfl rfl ?_
    obtain ⟨e1, e2⟩ := some_p hs; subst e1; subst e2
    exact Rc.ret (v := some (.int (-1 : Int32))) rfl rfl
  · rw [if_neg h9] at hs
    refine Rc.goL mt_1015 0 (f2 := (if r1 = 0 then 26 else 8, [.ref 179, .int x1, .int x2], [], gm M2)) (b := true) rfl rfl ?_
    rw [if_neg h9]
    refine Rc.goL mt_1015 0 (f2 := (9, [.ref 179, .int x1, .int x2], [.int x2], gm M2)) (b := true) rfl rfl ?_
    obtain ⟨r4, M5, he6, hs⟩ := ob_some hs
    refine Rc.callS (i := 62) (mid' := 1138) (av := [.int x2]) (rest := []) (v := some (.int r4)) (M1 := gm M5) rfl (Or.inr rfl) rfl cw_1138 rfl (Nat.le_of_ble_eq_true rfl) (qfr_isWeek_ok _ (by omega) he6) ?_
    by_cases h8 : r4 = 0
    · rw [if_pos h8] at hs
      refine Rc.goL mt_1015 0 (f2 := (if r4 = 0 then 26 else 15, [.ref 179, .int x1, .int x2], [], gm M5)) (b := true) rfl rfl ?_
      rw [if_pos h8]
      refine Rc.goL mt_1015 0 (f2 := (27, [.ref 179, .int x1, .int x2], [.int (-1 : Int32)], gm M5)) (b := true) rfl rfl ?_
      obtain ⟨e1, e2⟩ := some_p hs; subst e1; subst e2
      exact Rc.ret (v := some (.int (-1 : Int32))) rfl rfl
    · rw [if_neg h8] at hs
      refine Rc.goL mt_1015 0 (f2 := (if r4 = 0 then 26 else 15, [.ref 179, .int x1, .int x2], [], gm M5)) (b := true) rfl rfl ?_
      rw [if_neg h8]
      obtain ⟨hb7, hs⟩ := ck_some hs
      refine Rc.goL mt_1015 6 (f2 := (27, [.ref 179, .int x1, .int x2], [.int (M5.1 (204 + (Int32.toNatClampNeg x1)) (Int32.toNatClampNeg x2))], gm M5)) (b := (ib 6 x1 && (av 336 20 (204 + (Int32.toNatClampNeg x1)) x2 && true))) rfl hb7 ?_
      obtain ⟨e1, e2⟩ := some_p hs; subst e1; subst e2
      exact Rc.ret (v := some (.int (M5.1 (204 + (Int32.toNatClampNeg x1)) (Int32.toNatClampNeg x2)))) rfl rfl
def qtn_framesHeld_L5 : Nat → Int32 → Int32 → Int32 → Int32 → SM → Option (Int32 × SM)
  | 0, _, _, _, _, _ => none
  | n + 1, x1, x2, x3, x4, M =>
    if x4 < (M.1 179 3) then
    (ob (qtn_holderAt x4 x2 M) (fun r1 M2 =>
      if r1 = x1 then
      (qtn_framesHeld_L5 n x1 x2 (x3 + (1 : Int32)) (x4 + (1 : Int32)) M2) else
      (qtn_framesHeld_L5 n x1 x2 x3 (x4 + (1 : Int32)) M2))) else
    (some (x3, M))
def qtn_framesHeld (x1 : Int32) (x2 : Int32) (M : SM) : Option (Int32 × SM) :=
  qtn_framesHeld_L5 FU x1 x2 (0 : Int32) (0 : Int32) M
theorem mt_1016 : MT 1016 K_1016 LN_10 := ⟨rfl, rfl, by decide +kernel⟩
theorem okm_1016 : OKm 1016 := ⟨⟨vE_1016, okL_10, by decide +kernel⟩, by decide +kernel, by decide +kernel, by decide +kernel⟩
set_option maxRecDepth 20000 in
theorem qtn_framesHeld_L5_ok (d : Nat) (hd : 3 ≤ d + 1) : ∀ (n : Nat) (x1 : Int32) (x2 : Int32) (x3 : Int32) (x4 : Int32) (M : SM) (r : Int32) (Mz : SM), qtn_framesHeld_L5 n x1 x2 x3 x4 M = some (r, Mz) → Rc (d + 1) 1016 (5, [.ref 179, .int x1, .int x2, .int x3, .int x4], [], gm M) (some (.int r), gm Mz) := by
  intro n
  induction n with
  | zero => intro x1 x2 x3 x4 M r Mz hs; cases hs
  | succ n ih =>
    intro x1 x2 x3 x4 M r Mz hs
    rw [qtn_framesHeld_L5] at hs
    by_cases h5 : x4 < (M.1 179 3)
    · rw [if_pos h5] at hs
      refine Rc.goL mt_1016 3 (f2 := (if x4 < (M.1 179 3) then 14 else 34, [.ref 179, .int x1, .int x2, .int x3, .int x4], [], gm M)) (b := true) rfl rfl ?_
      rw [if_pos h5]
      refine Rc.goL mt_1016 2 (f2 := (18, [.ref 179, .int x1, .int x2, .int x3, .int x4], [.int x2, .int x4, .ref 179], gm M)) (b := true) rfl rfl ?_
      obtain ⟨r1, M2, he3, hs⟩ := ob_some hs
      refine Rc.callV (i := 65) (mid' := 1014) (av := [.int x4, .int x2]) (rest := []) (v := some (.int r1)) (M1 := gm M2) (a := 179) rfl rfl rfl cw_1014 rfl (Nat.le_of_ble_eq_true rfl) rfl (Nat.le_of_ble_eq_true rfl) (qtn_holderAt_ok _ (by omega) he3) ?_
      by_cases h4 : r1 = x1
      · rw [if_pos h4] at hs
        refine Rc.goL mt_1016 1 (f2 := (if r1 = x1 then 25 else 28, [.ref 179, .int x1, .int x2, .int x3, .int x4], [], gm M2)) (b := true) rfl rfl ?_
        rw [if_pos h4]
        refine Rc.goL mt_1016 0 (f2 := (28, [.ref 179, .int x1, .int x2, .int (x3 + (1 : Int32)), .int x4], [], gm M2)) (b := true) rfl rfl ?_
        refine Rc.goL mt_1016 1 (f2 := (5, [.ref 179, .int x1, .int x2, .int (x3 + (1 : Int32)), .int (x4 + (1 : Int32))], [], gm M2)) (b := true) rfl rfl ?_
        refine Rc.less (ls2 := [.ref 179, .int x1, .int x2, .int (x3 + (1 : Int32)), .int (x4 + (1 : Int32))]) (by refine ⟨Or.inr rfl, Or.inr rfl, Or.inr rfl, Or.inr rfl, Or.inr rfl, trivial⟩) ?_
        exact ih x1 x2 (x3 + (1 : Int32)) (x4 + (1 : Int32)) _ _ _ hs
      · rw [if_neg h4] at hs
        refine Rc.goL mt_1016 1 (f2 := (if r1 = x1 then 25 else 28, [.ref 179, .int x1, .int x2, .int x3, .int x4], [], gm M2)) (b := true) rfl rfl ?_
        rw [if_neg h4]
        refine Rc.goL mt_1016 1 (f2 := (5, [.ref 179, .int x1, .int x2, .int x3, .int (x4 + (1 : Int32))], [], gm M2)) (b := true) rfl rfl ?_
        refine Rc.less (ls2 := [.ref 179, .int x1, .int x2, .int x3, .int (x4 + (1 : Int32))]) (by refine ⟨Or.inr rfl, Or.inr rfl, Or.inr rfl, Or.inr rfl, Or.inr rfl, trivial⟩) ?_
        exact ih x1 x2 x3 (x4 + (1 : Int32)) _ _ _ hs
    · rw [if_neg h5] at hs
      refine Rc.goL mt_1016 3 (f2 := (if x4 < (M.1 179 3) then 14 else 34, [.ref 179, .int x1, .int x2, .int x3, .int x4], [], gm M)) (b := true) rfl rfl ?_
      rw [if_neg h5]
      refine Rc.goL mt_1016 0 (f2 := (35, [.ref 179, .int x1, .int x2, .int x3, .int x4], [.int x3], gm M)) (b := true) rfl rfl ?_
      obtain ⟨e1, e2⟩ := some_p hs; subst e1; subst e2
      exact Rc.ret (v := some (.int x3)) rfl rfl
set_option maxRecDepth 20000 in
theorem qtn_framesHeld_ok (d : Nat) (hd : 3 ≤ d) {x1 : Int32} {x2 : Int32} {M : SM} {r : Int32} {Mz : SM} (hs : qtn_framesHeld x1 x2 M = some (r, Mz)) : Ex d 1016 [.ref 179, .int x1, .int x2] (gm M) (some (.int r), gm Mz) := by
  obtain ⟨d, rfl⟩ : ∃ d0, d = d0 + 1 := ⟨d - 1, by omega⟩
  refine Ex.of okm_1016 (by omega) (Nat.le_of_ble_eq_true rfl) ?_
  show Rc (d + 1) 1016 (0, [.ref 179, .int x1, .int x2, UU, UU], [], gm M) _
  unfold qtn_framesHeld at hs
  refine Rc.goL mt_1016 3 (f2 := (5, [.ref 179, .int x1, .int x2, .int (0 : Int32), .int (0 : Int32)], [], gm M)) (b := true) rfl rfl ?_
  refine Rc.less (ls2 := [.ref 179, .int x1, .int x2, .int (0 : Int32), .int (0 : Int32)]) (by refine ⟨Or.inr rfl, Or.inr rfl, Or.inr rfl, Or.inr rfl, Or.inr rfl, trivial⟩) ?_
  exact qtn_framesHeld_L5_ok d hd _ x1 x2 (0 : Int32) (0 : Int32) _ _ _ hs
def qtn_gaugeOf (x1 : Int32) (M : SM) : Option (Int32 × SM) :=
  ob (qtn_hasFrame x1 M) (fun r1 M2 =>
  if r1 = 0 then
  (some ((0 : Int32), M2)) else
  (ck (ib 16 x1 && true) (
    some ((M2.1 183 (Int32.toNatClampNeg x1)), M2))))
theorem mt_1017 : MT 1017 K_1017 LN_10 := ⟨rfl, rfl, by decide +kernel⟩
theorem okm_1017 : OKm 1017 := ⟨⟨vE_1017, okL_10, by decide +kernel⟩, by decide +kernel, by decide +kernel, by decide +kernel⟩
set_option maxRecDepth 20000 in
theorem qtn_gaugeOf_ok (d : Nat) (hd : 2 ≤ d) {x1 : Int32} {M : SM} {r : Int32} {Mz : SM} (hs : qtn_gaugeOf x1 M = some (r, Mz)) : Ex d 1017 [.ref 179, .int x1] (gm M) (some (.int r), gm Mz) := by
  obtain ⟨d, rfl⟩ : ∃ d0, d = d0 + 1 := ⟨d - 1, by omega⟩
  refine Ex.of okm_1017 (by omega) (Nat.le_of_ble_eq_true rfl) ?_
  show Rc (d + 1) 1017 (0, [.ref 179, .int x1], [], gm M) _
  unfold qtn_gaugeOf at hs
  refine Rc.goL mt_1017 1 (f2 := (2, [.ref 179, .int x1], [.int x1, .ref 179], gm M)) (b := true) rfl rfl ?_
  obtain ⟨r1, M2, he3, hs⟩ := ob_some hs
  refine Rc.callV (i := 56) (mid' := 1004) (av := [.int x1]) (rest := []) (v := some (.int r1)) (M1 := gm M2) (a := 179) rfl rfl rfl cw_1004 rfl (Nat.le_of_ble_eq_true rfl) rfl (Nat.le_of_ble_eq_true rfl) (qtn_hasFrame_ok _ (by omega) he3) ?_
  by_cases h5 : r1 = 0
  · rw [if_pos h5] at hs
    refine Rc.goL mt_1017 0 (f2 := (if r1 = 0 then 17 else 8, [.ref 179, .int x1], [], gm M2)) (b := true) rfl rfl ?_
    rw [if_pos h5]
    refine Rc.goL mt_1017 0 (f2 := (18, [.ref 179, .int x1], [.int (0 : Int32)], gm M2)) (b := true) rfl rfl ?_
    obtain ⟨e1, e2⟩ := some_p hs; subst e1; subst e2
    exact Rc.ret (v := some (.int (0 : Int32))) rfl rfl
  · rw [if_neg h5] at hs
    refine Rc.goL mt_1017 0 (f2 := (if r1 = 0 then 17 else 8, [.ref 179, .int x1], [], gm M2)) (b := true) rfl rfl ?_
    rw [if_neg h5]
    obtain ⟨hb4, hs⟩ := ck_some hs
    refine Rc.goL mt_1017 4 (f2 := (18, [.ref 179, .int x1], [.int (M2.1 183 (Int32.toNatClampNeg x1))], gm M2)) (b := (ib 16 x1 && true)) rfl hb4 ?_
    obtain ⟨e1, e2⟩ := some_p hs; subst e1; subst e2
    exact Rc.ret (v := some (.int (M2.1 183 (Int32.toNatClampNeg x1)))) rfl rfl
def qtn_masterOf (x1 : Int32) (M : SM) : Option (Int32 × SM) :=
  ob (qtn_hasFrame x1 M) (fun r1 M2 =>
  if r1 = 0 then
  (some ((-1 : Int32), M2)) else
  (ck (ib 16 x1 && true) (
    some ((M2.1 184 (Int32.toNatClampNeg x1)), M2))))
theorem mt_1018 : MT 1018 K_1018 LN_10 := ⟨rfl, rfl, by decide +kernel⟩
theorem okm_1018 : OKm 1018 := ⟨⟨vE_1018, okL_10, by decide +kernel⟩, by decide +kernel, by decide +kernel, by decide +kernel⟩
set_option maxRecDepth 20000 in
theorem qtn_masterOf_ok (d : Nat) (hd : 2 ≤ d) {x1 : Int32} {M : SM} {r : Int32} {Mz : SM} (hs : qtn_masterOf x1 M = some (r, Mz)) : Ex d 1018 [.ref 179, .int x1] (gm M) (some (.int r), gm Mz) := by
  obtain ⟨d, rfl⟩ : ∃ d0, d = d0 + 1 := ⟨d - 1, by omega⟩
  refine Ex.of okm_1018 (by omega) (Nat.le_of_ble_eq_true rfl) ?_
  show Rc (d + 1) 1018 (0, [.ref 179, .int x1], [], gm M) _
  unfold qtn_masterOf at hs
  refine Rc.goL mt_1018 1 (f2 := (2, [.ref 179, .int x1], [.int x1, .ref 179], gm M)) (b := true) rfl rfl ?_
  obtain ⟨r1, M2, he3, hs⟩ := ob_some hs
  refine Rc.callV (i := 56) (mid' := 1004) (av := [.int x1]) (rest := []) (v := some (.int r1)) (M1 := gm M2) (a := 179) rfl rfl rfl cw_1004 rfl (Nat.le_of_ble_eq_true rfl) rfl (Nat.le_of_ble_eq_true rfl) (qtn_hasFrame_ok _ (by omega) he3) ?_
  by_cases h5 : r1 = 0
  · rw [if_pos h5] at hs
    refine Rc.goL mt_1018 0 (f2 := (if r1 = 0 then 17 else 8, [.ref 179, .int x1], [], gm M2)) (b := true) rfl rfl ?_
    rw [if_pos h5]
    refine Rc.goL mt_1018 0 (f2 := (18, [.ref 179, .int x1], [.int (-1 : Int32)], gm M2)) (b := true) rfl rfl ?_
    obtain ⟨e1, e2⟩ := some_p hs; subst e1; subst e2
    exact Rc.ret (v := some (.int (-1 : Int32))) rfl rfl
  · rw [if_neg h5] at hs
    refine Rc.goL mt_1018 0 (f2 := (if r1 = 0 then 17 else 8, [.ref 179, .int x1], [], gm M2)) (b := true) rfl rfl ?_
    rw [if_neg h5]
    obtain ⟨hb4, hs⟩ := ck_some hs
    refine Rc.goL mt_1018 4 (f2 := (18, [.ref 179, .int x1], [.int (M2.1 184 (Int32.toNatClampNeg x1))], gm M2)) (b := (ib 16 x1 && true)) rfl hb4 ?_
    obtain ⟨e1, e2⟩ := some_p hs; subst e1; subst e2
    exact Rc.ret (v := some (.int (M2.1 184 (Int32.toNatClampNeg x1)))) rfl rfl
def qtn_overOf (x1 : Int32) (M : SM) : Option (Int32 × SM) :=
  ob (qtn_hasMaster x1 M) (fun r1 M2 =>
  if r1 = 0 then
  (some ((0 : Int32), M2)) else
  (ck (ib 6 x1 && true) (
    some ((M2.1 181 (Int32.toNatClampNeg x1)), M2))))
theorem mt_1020 : MT 1020 K_1020 LN_10 := ⟨rfl, rfl, by decide +kernel⟩
theorem okm_1020 : OKm 1020 := ⟨⟨vE_1020, okL_10, by decide +kernel⟩, by decide +kernel, by decide +kernel, by decide +kernel⟩
set_option maxRecDepth 20000 in
theorem qtn_overOf_ok (d : Nat) (hd : 2 ≤ d) {x1 : Int32} {M : SM} {r : Int32} {Mz : SM} (hs : qtn_overOf x1 M = some (r, Mz)) : Ex d 1020 [.ref 179, .int x1] (gm M) (some (.int r), gm Mz) := by
  obtain ⟨d, rfl⟩ : ∃ d0, d = d0 + 1 := ⟨d - 1, by omega⟩
  refine Ex.of okm_1020 (by omega) (Nat.le_of_ble_eq_true rfl) ?_
  show Rc (d + 1) 1020 (0, [.ref 179, .int x1], [], gm M) _
  unfold qtn_overOf at hs
  refine Rc.goL mt_1020 1 (f2 := (2, [.ref 179, .int x1], [.int x1, .ref 179], gm M)) (b := true) rfl rfl ?_
  obtain ⟨r1, M2, he3, hs⟩ := ob_some hs
  refine Rc.callV (i := 52) (mid' := 1002) (av := [.int x1]) (rest := []) (v := some (.int r1)) (M1 := gm M2) (a := 179) rfl rfl rfl cw_1002 rfl (Nat.le_of_ble_eq_true rfl) rfl (Nat.le_of_ble_eq_true rfl) (qtn_hasMaster_ok _ (by omega) he3) ?_
  by_cases h5 : r1 = 0
  · rw [if_pos h5] at hs
    refine Rc.goL mt_1020 0 (f2 := (if r1 = 0 then 17 else 8, [.ref 179, .int x1], [], gm M2)) (b := true) rfl rfl ?_
    rw [if_pos h5]
    refine Rc.goL mt_1020 0 (f2 := (18, [.ref 179, .int x1], [.int (0 : Int32)], gm M2)) (b := true) rfl rfl ?_
    obtain ⟨e1, e2⟩ := some_p hs; subst e1; subst e2
    exact Rc.ret (v := some (.int (0 : Int32))) rfl rfl
  · rw [if_neg h5] at hs
    refine Rc.goL mt_1020 0 (f2 := (if r1 = 0 then 17 else 8, [.ref 179, .int x1], [], gm M2)) (b := true) rfl rfl ?_
    rw [if_neg h5]
    obtain ⟨hb4, hs⟩ := ck_some hs
    refine Rc.goL mt_1020 4 (f2 := (18, [.ref 179, .int x1], [.int (M2.1 181 (Int32.toNatClampNeg x1))], gm M2)) (b := (ib 6 x1 && true)) rfl hb4 ?_
    obtain ⟨e1, e2⟩ := some_p hs; subst e1; subst e2
    exact Rc.ret (v := some (.int (M2.1 181 (Int32.toNatClampNeg x1)))) rfl rfl
