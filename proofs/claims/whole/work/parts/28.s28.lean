def qfr_setFactsOfFrame (x1 : Int32) (x2 : Int32) (M : SM) : Option (Unit × SM) :=
  ob (qtn_holderAt x1 x2 M) (fun r1 M2 =>
  ob (qtn_gaugeOf x1 M2) (fun r4 M5 =>
  ob (qpr_setFact (0 : Int32) r4 M5) (fun _ M7 =>
  ob (qtn_framesHeld r1 x2 M7) (fun r10 M11 =>
  ob (qpr_setFact (5 : Int32) r10 M11) (fun _ M13 =>
  ob (qtn_headsOf r1 M13) (fun r16 M17 =>
  ob (qpr_setFact (6 : Int32) r16 M17) (fun _ M19 =>
  ob (qtn_kindOfOwner x1 M19) (fun r22 M23 =>
  ob (qpr_setFact (8 : Int32) r22 M23) (fun _ M25 =>
  ob (qpr_setFact (9 : Int32) x2 M25) (fun _ M28 =>
  some ((), M28)))))))))))
theorem mt_1144 : MT 1144 K_1144 LN_11 := ⟨rfl, rfl, by decide +kernel⟩
theorem okm_1144 : OKm 1144 := ⟨⟨vE_1144, okL_11, by decide +kernel⟩, by decide +kernel, by decide +kernel, by decide +kernel⟩
set_option maxRecDepth 20000 in
theorem qfr_setFactsOfFrame_ok (d : Nat) (hd : 4 ≤ d) {x1 : Int32} {x2 : Int32} {M : SM} {r : Unit} {Mz : SM} (hs : qfr_setFactsOfFrame x1 x2 M = some (r, Mz)) : Ex d 1144 [.ref 0, .int x1, .int x2] (gm M) (none, gm Mz) := by
  obtain ⟨d, rfl⟩ : ∃ d0, d = d0 + 1 := ⟨d - 1, by omega⟩
  refine Ex.of okm_1144 (by omega) (Nat.le_of_ble_eq_true rfl) ?_
  show Rc (d + 1) 1144 (0, [.ref 0, .int x1, .int x2, UU], [], gm M) _
  unfold qfr_setFactsOfFrame at hs
  refine Rc.goL mt_1144 3 (f2 := (6, [.ref 0, .int x1, .int x2, UU], [.int x2, .int x1, .ref 179], gm M)) (b := true) rfl rfl ?_
  obtain ⟨r1, M2, he3, hs⟩ := ob_some hs
  refine Rc.callV (i := 119) (mid' := 1014) (av := [.int x1, .int x2]) (rest := []) (v := some (.int r1)) (M1 := gm M2) (a := 179) rfl rfl rfl cw_1014 rfl (Nat.le_of_ble_eq_true rfl) rfl (Nat.le_of_ble_eq_true rfl) (qtn_holderAt_ok _ (by omega) he3) ?_
  refine Rc.goL mt_1144 6 (f2 := (20, [.ref 0, .int x1, .int x2, .int r1], [.int x1, .ref 179, .int (0 : Int32), .ref 12], gm M2)) (b := true) rfl rfl ?_
  obtain ⟨r4, M5, he6, hs⟩ := ob_some hs
  refine Rc.callV (i := 388) (mid' := 1017) (av := [.int x1]) (rest := [.int (0 : Int32), .ref 12]) (v := some (.int r4)) (M1 := gm M5) (a := 179) rfl rfl rfl cw_1017 rfl (Nat.le_of_ble_eq_true rfl) rfl (Nat.le_of_ble_eq_true rfl) (qtn_gaugeOf_ok _ (by omega) he6) ?_
  obtain ⟨u9, M7, he8, hs⟩ := ob_some hs
  refine Rc.callV (i := 185) (mid' := 607) (av := [.int (0 : Int32), .int r4]) (rest := []) (v := none) (M1 := gm M7) (a := 12) rfl rfl rfl cw_607 rfl (Nat.le_of_ble_eq_true rfl) rfl (Nat.le_of_ble_eq_true rfl) (qpr_setFact_ok _ (by omega) he8) ?_
  refine Rc.goL mt_1144 6 (f2 := (37, [.ref 0, .int x1, .int x2, .int r1], [.int x2, .int r1, .ref 179, .int (5 : Int32), .ref 12], gm M7)) (b := true) rfl rfl ?_
  obtain ⟨r10, M11, he12, hs⟩ := ob_some hs
  refine Rc.callV (i := 391) (mid' := 1016) (av := [.int r1, .int x2]) (rest := [.int (5 : Int32), .ref 12]) (v := some (.int r10)) (M1 := gm M11) (a := 179) rfl rfl rfl cw_1016 rfl (Nat.le_of_ble_eq_true rfl) rfl (Nat.le_of_ble_eq_true rfl) (qtn_framesHeld_ok _ (by omega) he12) ?_
  obtain ⟨u15, M13, he14, hs⟩ := ob_some hs
  refine Rc.callV (i := 185) (mid' := 607) (av := [.int (5 : Int32), .int r10]) (rest := []) (v := none) (M1 := gm M13) (a := 12) rfl rfl rfl cw_607 rfl (Nat.le_of_ble_eq_true rfl) rfl (Nat.le_of_ble_eq_true rfl) (qpr_setFact_ok _ (by omega) he14) ?_
  refine Rc.goL mt_1144 5 (f2 := (54, [.ref 0, .int x1, .int x2, .int r1], [.int r1, .ref 179, .int (6 : Int32), .ref 12], gm M13)) (b := true) rfl rfl ?_
  obtain ⟨r16, M17, he18, hs⟩ := ob_some hs
  refine Rc.callV (i := 250) (mid' := 1019) (av := [.int r1]) (rest := [.int (6 : Int32), .ref 12]) (v := some (.int r16)) (M1 := gm M17) (a := 179) rfl rfl rfl cw_1019 rfl (Nat.le_of_ble_eq_true rfl) rfl (Nat.le_of_ble_eq_true rfl) (qtn_headsOf_ok _ (by omega) he18) ?_
  obtain ⟨u21, M19, he20, hs⟩ := ob_some hs
  refine Rc.callV (i := 185) (mid' := 607) (av := [.int (6 : Int32), .int r16]) (rest := []) (v := none) (M1 := gm M19) (a := 12) rfl rfl rfl cw_607 rfl (Nat.le_of_ble_eq_true rfl) rfl (Nat.le_of_ble_eq_true rfl) (qpr_setFact_ok _ (by omega) he20) ?_
  refine Rc.goL mt_1144 5 (f2 := (71, [.ref 0, .int x1, .int x2, .int r1], [.int x1, .ref 179, .int (8 : Int32), .ref 12], gm M19)) (b := true) rfl rfl ?_
  obtain ⟨r22, M23, he24, hs⟩ := ob_some hs
  refine Rc.callV (i := 394) (mid' := 1022) (av := [.int x1]) (rest := [.int (8 : Int32), .ref 12]) (v := some (.int r22)) (M1 := gm M23) (a := 179) rfl rfl rfl cw_1022 rfl (Nat.le_of_ble_eq_true rfl) rfl (Nat.le_of_ble_eq_true rfl) (qtn_kindOfOwner_ok _ (by omega) he24) ?_
  obtain ⟨u27, M25, he26, hs⟩ := ob_some hs
  refine Rc.callV (i := 185) (mid' := 607) (av := [.int (8 : Int32), .int r22]) (rest := []) (v := none) (M1 := gm M25) (a := 12) rfl rfl rfl cw_607 rfl (Nat.le_of_ble_eq_true rfl) rfl (Nat.le_of_ble_eq_true rfl) (qpr_setFact_ok _ (by omega) he26) ?_
  refine Rc.goL mt_1144 3 (f2 := (84, [.ref 0, .int x1, .int x2, .int r1], [.int x2, .int (9 : Int32), .ref 12], gm M25)) (b := true) rfl rfl ?_
  obtain ⟨u30, M28, he29, hs⟩ := ob_some hs
  refine Rc.callV (i := 185) (mid' := 607) (av := [.int (9 : Int32), .int x2]) (rest := []) (v := none) (M1 := gm M28) (a := 12) rfl rfl rfl cw_607 rfl (Nat.le_of_ble_eq_true rfl) rfl (Nat.le_of_ble_eq_true rfl) (qpr_setFact_ok _ (by omega) he29) ?_
  obtain ⟨e1, e2⟩ := some_p hs; subst e1; subst e2
  exact Rc.ret (v := none) rfl rfl
def qfr_reckonWeek (x1 : Int32) (x2 : Int32) (x3 : Int32) (x4 : Int32) (M : SM) : Option (Int32 × SM) :=
  ob (qtn_holderAt x1 x2 M) (fun r1 M2 =>
  if r1 = (-1 : Int32) then
  (some ((0 : Int32), M2)) else
  (ob (qen_knownAt x1 x2 x3 M2) (fun r4 M5 =>
    jn (fun (x1_7 : Int32) (x2_8 : Int32) (x3_9 : Int32) (x4_10 : Int32) (x5_11 : Int32) (t12 : Int32) (M13 : SM) =>
      ob (qfr_setFactsOfFrame x1_7 x2_8 M13) (fun _ M14 =>
        jn (fun (x1_17 : Int32) (x2_18 : Int32) (x3_19 : Int32) (x4_20 : Int32) (x5_21 : Int32) (x6_22 : Int32) (t23 : Int32) (M24 : SM) =>
          ob (qpr_setFact (1 : Int32) t23 M24) (fun _ M25 =>
            jn (fun (x1_28 : Int32) (x2_29 : Int32) (x3_30 : Int32) (x4_31 : Int32) (x5_32 : Int32) (x6_33 : Int32) (t34 : Int32) (M35 : SM) =>
              ob (qpr_setFact (2 : Int32) t34 M35) (fun _ M36 =>
                jn (fun (x1_39 : Int32) (x2_40 : Int32) (x3_41 : Int32) (x4_42 : Int32) (x5_43 : Int32) (x6_44 : Int32) (t45 : Int32) (M46 : SM) =>
                  ob (qpr_setFact (3 : Int32) t45 M46) (fun _ M47 =>
                    jn (fun (x1_50 : Int32) (x2_51 : Int32) (x3_52 : Int32) (x4_53 : Int32) (t54 : Int32) (M55 : SM) =>
                      ob (qpr_setFact (4 : Int32) t54 M55) (fun _ M56 =>
                        ob (qfr_idleWeeks x1_50 x2_51 x3_52 M56) (fun r59 M60 =>
                        ob (qpr_setFact (7 : Int32) r59 M60) (fun _ M62 =>
                        ob (qpr_listAt x4_53 M62) (fun r65 M66 =>
                        ob (qpr_reckonLetters r65 M66) (fun _ M68 =>
                        ob (qtn_isOwn x1_50 M68) (fun r71 M72 =>
                        ob (qpr_boundWorths x2_51 r71 M72) (fun _ M74 =>
                        some ((1 : Int32), M74))))))))) (fun j77 =>
                    if x6_44 = 0 then
                    (ob (qen_at x5_43 (5 : Int32) M47) (fun r78 M79 =>
                      j77 x1_39 x2_40 x3_41 x4_42 r78 M79)) else
                    (j77 x1_39 x2_40 x3_41 x4_42 (0 : Int32) M47)))) (fun j82 =>
                if x6_33 = 0 then
                (ob (qen_at x5_32 (4 : Int32) M36) (fun r83 M84 =>
                  j82 x1_28 x2_29 x3_30 x4_31 x5_32 x6_33 r83 M84)) else
                (j82 x1_28 x2_29 x3_30 x4_31 x5_32 x6_33 (0 : Int32) M36)))) (fun j87 =>
            if x6_22 = 0 then
            (ob (qen_at x5_21 (2 : Int32) M25) (fun r88 M89 =>
              j87 x1_17 x2_18 x3_19 x4_20 x5_21 x6_22 r88 M89)) else
            (j87 x1_17 x2_18 x3_19 x4_20 x5_21 x6_22 (0 : Int32) M25)))) (fun j92 =>
        if t12 = 0 then
        (ob (qen_at x5_11 (3 : Int32) M14) (fun r93 M94 =>
          j92 x1_7 x2_8 x3_9 x4_10 x5_11 t12 r93 M94)) else
        (j92 x1_7 x2_8 x3_9 x4_10 x5_11 t12 (0 : Int32) M14)))) (fun j97 =>
    if r4 = (-1 : Int32) then
    (j97 x1 x2 x3 x4 r4 (1 : Int32) M5) else
    (j97 x1 x2 x3 x4 r4 (0 : Int32) M5)))))
theorem mt_1145 : MT 1145 K_1145 LN_11 := ⟨rfl, rfl, by decide +kernel⟩
theorem okm_1145 : OKm 1145 := ⟨⟨vE_1145, okL_11, by decide +kernel⟩, by decide +kernel, by decide +kernel, by decide +kernel⟩
set_option maxRecDepth 20000 in
theorem qfr_reckonWeek_ok (d : Nat) (hd : 6 ≤ d) {x1 : Int32} {x2 : Int32} {x3 : Int32} {x4 : Int32} {M : SM} {r : Int32} {Mz : SM} (hs : qfr_reckonWeek x1 x2 x3 x4 M = some (r, Mz)) : Ex d 1145 [.ref 0, .int x1, .int x2, .int x3, .int x4] (gm M) (some (.int r), gm Mz) := by
  obtain ⟨d, rfl⟩ : ∃ d0, d = d0 + 1 := ⟨d - 1, by omega⟩
  refine Ex.of okm_1145 (by omega) (Nat.le_of_ble_eq_true rfl) ?_
  show Rc (d + 1) 1145 (0, [.ref 0, .int x1, .int x2, .int x3, .int x4, UU, UU], [], gm M) _
  unfold qfr_reckonWeek at hs
  refine Rc.goL mt_1145 3 (f2 := (6, [.ref 0, .int x1, .int x2, .int x3, .int x4, UU, UU], [.int x2, .int x1, .ref 179], gm M)) (b := true) rfl rfl ?_
  obtain ⟨r1, M2, he3, hs⟩ := ob_some hs
  refine Rc.callV (i := 119) (mid' := 1014) (av := [.int x1, .int x2]) (rest := []) (v := some (.int r1)) (M1 := gm M2) (a := 179) rfl rfl rfl cw_1014 rfl (Nat.le_of_ble_eq_true rfl) rfl (Nat.le_of_ble_eq_true rfl) (qtn_holderAt_ok _ (by omega) he3) ?_
  by_cases h99 : r1 = (-1 : Int32)
  · rw [if_pos h99] at hs
    refine Rc.goL mt_1145 1 (f2 := (if r1 = (-1 : Int32) then 13 else 15, [.ref 0, .int x1, .int x2, .int x3, .int x4, UU, UU], [], gm M2)) (b := true) rfl rfl ?_
    rw [if_pos h99]
    refine Rc.goL mt_1145 0 (f2 := (14, [.ref 0, .int x1, .int x2, .int x3, .int x4, UU, UU], [.int (0 : Int32)], gm M2)) (b := true) rfl rfl ?_
    obtain ⟨e1, e2⟩ := some_p hs; subst e1; subst e2
    exact Rc.ret (v := some (.int (0 : Int32))) rfl rfl
  · rw [if_neg h99] at hs
    refine Rc.goL mt_1145 1 (f2 := (if r1 = (-1 : Int32) then 13 else 15, [.ref 0, .int x1, .int x2, .int x3, .int x4, UU, UU], [], gm M2)) (b := true) rfl rfl ?_
    rw [if_neg h99]
    refine Rc.goL mt_1145 4 (f2 := (22, [.ref 0, .int x1, .int x2, .int x3, .int x4, UU, UU], [.int x3, .int x2, .int x1, .ref 210], gm M2)) (b := true) rfl rfl ?_
    obtain ⟨r4, M5, he6, hs⟩ := ob_some hs
    refine Rc.callV (i := 211) (mid' := 206) (av := [.int x1, .int x2, .int x3]) (rest := []) (v := some (.int r4)) (M1 := gm M5) (a := 210) rfl rfl rfl cw_206 rfl (Nat.le_of_ble_eq_true rfl) rfl (Nat.le_of_ble_eq_true rfl) (qen_knownAt_ok _ (by omega) he6) ?_
    refine jn_e (P := fun (j : Int32 → Int32 → Int32 → Int32 → Int32 → Int32 → SM → Option (Int32 × SM)) => ∀ (x1_7 : Int32) (x2_8 : Int32) (x3_9 : Int32) (x4_10 : Int32) (x5_11 : Int32) (t12 : Int32) (M13 : SM) (r : Int32) (Mz : SM), j x1_7 x2_8 x3_9 x4_10 x5_11 t12 M13 = some (r, Mz) → Rc (d + 1) 1145 (38, [.ref 0, .int x1_7, .int x2_8, .int x3_9, .int x4_10, .int x5_11, UU], [.int t12], gm M13) (some (.int r), gm Mz)) hs ?_ (fun j97 Hj97 hs => ?_)
    · intro x1_7 x2_8 x3_9 x4_10 x5_11 t12 M13 r Mz hs
      try dsimp only at hs
      refine Rc.goL mt_1145 3 (f2 := (43, [.ref 0, .int x1_7, .int x2_8, .int x3_9, .int x4_10, .int x5_11, .int t12], [.int x2_8, .int x1_7, .ref 0], gm M13)) (b := true) rfl rfl ?_
      obtain ⟨u16, M14, he15, hs⟩ := ob_some hs
      refine Rc.callV (i := 397) (mid' := 1144) (av := [.int x1_7, .int x2_8]) (rest := []) (v := none) (M1 := gm M14) (a := 0) rfl rfl rfl cw_1144 rfl (Nat.le_of_ble_eq_true rfl) rfl (Nat.le_of_ble_eq_true rfl) (qfr_setFactsOfFrame_ok _ (by omega) he15) ?_
      refine jn_e (P := fun (j : Int32 → Int32 → Int32 → Int32 → Int32 → Int32 → Int32 → SM → Option (Int32 × SM)) => ∀ (x1_17 : Int32) (x2_18 : Int32) (x3_19 : Int32) (x4_20 : Int32) (x5_21 : Int32) (x6_22 : Int32) (t23 : Int32) (M24 : SM) (r : Int32) (Mz : SM), j x1_17 x2_18 x3_19 x4_20 x5_21 x6_22 t23 M24 = some (r, Mz) → Rc (d + 1) 1145 (70, [.ref 0, .int x1_17, .int x2_18, .int x3_19, .int x4_20, .int x5_21, .int x6_22], [.int t23, .int (1 : Int32), .ref 12], gm M24) (some (.int r), gm Mz)) hs ?_ (fun j92 Hj92 hs => ?_)
      · intro x1_17 x2_18 x3_19 x4_20 x5_21 x6_22 t23 M24 r Mz hs
        try dsimp only at hs
        obtain ⟨u27, M25, he26, hs⟩ := ob_some hs
        refine Rc.callV (i := 185) (mid' := 607) (av := [.int (1 : Int32), .int t23]) (rest := []) (v := none) (M1 := gm M25) (a := 12) rfl rfl rfl cw_607 rfl (Nat.le_of_ble_eq_true rfl) rfl (Nat.le_of_ble_eq_true rfl) (qpr_setFact_ok _ (by omega) he26) ?_
        refine jn_e (P := fun (j : Int32 → Int32 → Int32 → Int32 → Int32 → Int32 → Int32 → SM → Option (Int32 × SM)) => ∀ (x1_28 : Int32) (x2_29 : Int32) (x3_30 : Int32) (x4_31 : Int32) (x5_32 : Int32) (x6_33 : Int32) (t34 : Int32) (M35 : SM) (r : Int32) (Mz : SM), j x1_28 x2_29 x3_30 x4_31 x5_32 x6_33 t34 M35 = some (r, Mz) → Rc (d + 1) 1145 (97, [.ref 0, .int x1_28, .int x2_29, .int x3_30, .int x4_31, .int x5_32, .int x6_33], [.int t34, .int (2 : Int32), .ref 12], gm M35) (some (.int r), gm Mz)) hs ?_ (fun j87 Hj87 hs => ?_)
        · intro x1_28 x2_29 x3_30 x4_31 x5_32 x6_33 t34 M35 r Mz hs
          try dsimp only at hs
          obtain ⟨u38, M36, he37, hs⟩ := ob_some hs
          refine Rc.callV (i := 185) (mid' := 607) (av := [.int (2 : Int32), .int t34]) (rest := []) (v := none) (M1 := gm M36) (a := 12) rfl rfl rfl cw_607 rfl (Nat.le_of_ble_eq_true rfl) rfl (Nat.le_of_ble_eq_true rfl) (qpr_setFact_ok _ (by omega) he37) ?_
          refine jn_e (P := fun (j : Int32 → Int32 → Int32 → Int32 → Int32 → Int32 → Int32 → SM → Option (Int32 × SM)) => ∀ (x1_39 : Int32) (x2_40 : Int32) (x3_41 : Int32) (x4_42 : Int32) (x5_43 : Int32) (x6_44 : Int32) (t45 : Int32) (M46 : SM) (r : Int32) (Mz : SM), j x1_39 x2_40 x3_41 x4_42 x5_43 x6_44 t45 M46 = some (r, Mz) → Rc (d + 1) 1145 (124, [.ref 0, .int x1_39, .int x2_40, .int x3_41, .int x4_42, .int x5_43, .int x6_44], [.int t45, .int (3 : Int32), .ref 12], gm M46) (some (.int r), gm Mz)) hs ?_ (fun j82 Hj82 hs => ?_)
          · intro x1_39 x2_40 x3_41 x4_42 x5_43 x6_44 t45 M46 r Mz hs
            try dsimp only at hs
            obtain ⟨u49, M47, he48, hs⟩ := ob_some hs
            refine Rc.callV (i := 185) (mid' := 607) (av := [.int (3 : Int32), .int t45]) (rest := []) (v := none) (M1 := gm M47) (a := 12) rfl rfl rfl cw_607 rfl (Nat.le_of_ble_eq_true rfl) rfl (Nat.le_of_ble_eq_true rfl) (qpr_setFact_ok _ (by omega) he48) ?_
            refine jn_e (P := fun (j : Int32 → Int32 → Int32 → Int32 → Int32 → SM → Option (Int32 × SM)) => ∀ (x1_50 : Int32) (x2_51 : Int32) (x3_52 : Int32) (x4_53 : Int32) (t54 : Int32) (M55 : SM) (r : Int32) (Mz : SM), j x1_50 x2_51 x3_52 x4_53 t54 M55 = some (r, Mz) → Rc (d + 1) 1145 (151, [.ref 0, .int x1_50, .int x2_51, .int x3_52, .int x4_53, UU, UU], [.int t54, .int (4 : Int32), .ref 12], gm M55) (some (.int r), gm Mz)) hs ?_ (fun j77 Hj77 hs => ?_)
            · intro x1_50 x2_51 x3_52 x4_53 t54 M55 r Mz hs
              try dsimp only at hs
              obtain ⟨u58, M56, he57, hs⟩ := ob_some hs
              refine Rc.callV (i := 185) (mid' := 607) (av := [.int (4 : Int32), .int t54]) (rest := []) (v := none) (M1 := gm M56) (a := 12) rfl rfl rfl cw_607 rfl (Nat.le_of_ble_eq_true rfl) rfl (Nat.le_of_ble_eq_true rfl) (qpr_setFact_ok _ (by omega) he57) ?_
              refine Rc.goL mt_1145 6 (f2 := (164, [.ref 0, .int x1_50, .int x2_51, .int x3_52, .int x4_53, UU, UU], [.int x3_52, .int x2_51, .int x1_50, .ref 0, .int (7 : Int32), .ref 12], gm M56)) (b := true) rfl rfl ?_
              obtain ⟨r59, M60, he61, hs⟩ := ob_some hs
              refine Rc.callV (i := 208) (mid' := 1142) (av := [.int x1_50, .int x2_51, .int x3_52]) (rest := [.int (7 : Int32), .ref 12]) (v := some (.int r59)) (M1 := gm M60) (a := 0) rfl rfl rfl cw_1142 rfl (Nat.le_of_ble_eq_true rfl) rfl (Nat.le_of_ble_eq_true rfl) (qfr_idleWeeks_ok _ (by omega) he61) ?_
              obtain ⟨u64, M62, he63, hs⟩ := ob_some hs
              refine Rc.callV (i := 185) (mid' := 607) (av := [.int (7 : Int32), .int r59]) (rest := []) (v := none) (M1 := gm M62) (a := 12) rfl rfl rfl cw_607 rfl (Nat.le_of_ble_eq_true rfl) rfl (Nat.le_of_ble_eq_true rfl) (qpr_setFact_ok _ (by omega) he63) ?_
              refine Rc.goL mt_1145 4 (f2 := (180, [.ref 0, .int x1_50, .int x2_51, .int x3_52, .int x4_53, UU, UU], [.int x4_53, .ref 12, .ref 12], gm M62)) (b := true) rfl rfl ?_
              obtain ⟨r65, M66, he67, hs⟩ := ob_some hs
              refine Rc.callV (i := 172) (mid' := 605) (av := [.int x4_53]) (rest := [.ref 12]) (v := some (rv r65)) (M1 := gm M66) (a := 12) rfl rfl rfl cw_605 rfl (Nat.le_of_ble_eq_true rfl) rfl (Nat.le_of_ble_eq_true rfl) (qpr_listAt_ok _ (by omega) he67) ?_
              obtain ⟨u70, M68, he69, hs⟩ := ob_some hs
              refine Rc.callV (i := 188) (mid' := 610) (av := [rv r65]) (rest := []) (v := none) (M1 := gm M68) (a := 12) rfl rfl rfl cw_610 rfl (Nat.le_of_ble_eq_true rfl) rfl (Nat.le_of_ble_eq_true rfl) (qpr_reckonLetters_ok _ (by omega) he69) ?_
              refine Rc.goL mt_1145 5 (f2 := (196, [.ref 0, .int x1_50, .int x2_51, .int x3_52, .int x4_53, UU, UU], [.int x1_50, .ref 179, .int x2_51, .ref 12], gm M68)) (b := true) rfl rfl ?_
              obtain ⟨r71, M72, he73, hs⟩ := ob_some hs
              refine Rc.callV (i := 400) (mid' := 1007) (av := [.int x1_50]) (rest := [.int x2_51, .ref 12]) (v := some (.int r71)) (M1 := gm M72) (a := 179) rfl rfl rfl cw_1007 rfl (Nat.le_of_ble_eq_true rfl) rfl (Nat.le_of_ble_eq_true rfl) (qtn_isOwn_ok _ (by omega) he73) ?_
              obtain ⟨u76, M74, he75, hs⟩ := ob_some hs
              refine Rc.callV (i := 403) (mid' := 611) (av := [.int x2_51, .int r71]) (rest := []) (v := none) (M1 := gm M74) (a := 12) rfl rfl rfl cw_611 rfl (Nat.le_of_ble_eq_true rfl) rfl (Nat.le_of_ble_eq_true rfl) (qpr_boundWorths_ok _ (by omega) he75) ?_
              refine Rc.goL mt_1145 0 (f2 := (203, [.ref 0, .int x1_50, .int x2_51, .int x3_52, .int x4_53, UU, UU], [.int (1 : Int32)], gm M74)) (b := true) rfl rfl ?_
              obtain ⟨e1, e2⟩ := some_p hs; subst e1; subst e2
              exact Rc.ret (v := some (.int (1 : Int32))) rfl rfl
            by_cases h81 : x6_44 = 0
            · rw [if_pos h81] at hs
              refine Rc.goL mt_1145 4 (f2 := (if x6_44 = 0 then 141 else 137, [.ref 0, .int x1_39, .int x2_40, .int x3_41, .int x4_42, .int x5_43, .int x6_44], [.int (4 : Int32), .ref 12], gm M47)) (b := true) rfl rfl ?_
              rw [if_pos h81]
              refine Rc.goL mt_1145 3 (f2 := (148, [.ref 0, .int x1_39, .int x2_40, .int x3_41, .int x4_42, .int x5_43, .int x6_44], [.int (5 : Int32), .int x5_43, .ref 210, .int (4 : Int32), .ref 12], gm M47)) (b := true) rfl rfl ?_
              obtain ⟨r78, M79, he80, hs⟩ := ob_some hs
              refine Rc.callV (i := 265) (mid' := 205) (av := [.int x5_43, .int (5 : Int32)]) (rest := [.int (4 : Int32), .ref 12]) (v := some (.int r78)) (M1 := gm M79) (a := 210) rfl rfl rfl cw_205 rfl (Nat.le_of_ble_eq_true rfl) rfl (Nat.le_of_ble_eq_true rfl) (qen_at_ok _ (by omega) he80) ?_
              refine Rc.less (ls2 := [.ref 0, .int x1_39, .int x2_40, .int x3_41, .int x4_42, UU, UU]) (by refine ⟨Or.inr rfl, Or.inr rfl, Or.inr rfl, Or.inr rfl, Or.inr rfl, Or.inl rfl, Or.inl rfl, trivial⟩) ?_
              exact Hj77 x1_39 x2_40 x3_41 x4_42 r78 _ _ _ hs
            · rw [if_neg h81] at hs
              refine Rc.goL mt_1145 4 (f2 := (if x6_44 = 0 then 141 else 137, [.ref 0, .int x1_39, .int x2_40, .int x3_41, .int x4_42, .int x5_43, .int x6_44], [.int (4 : Int32), .ref 12], gm M47)) (b := true) rfl rfl ?_
              rw [if_neg h81]
              refine Rc.goL mt_1145 1 (f2 := (151, [.ref 0, .int x1_39, .int x2_40, .int x3_41, .int x4_42, .int x5_43, .int x6_44], [.int (0 : Int32), .int (4 : Int32), .ref 12], gm M47)) (b := true) rfl rfl ?_
              refine Rc.less (ls2 := [.ref 0, .int x1_39, .int x2_40, .int x3_41, .int x4_42, UU, UU]) (by refine ⟨Or.inr rfl, Or.inr rfl, Or.inr rfl, Or.inr rfl, Or.inr rfl, Or.inl rfl, Or.inl rfl, trivial⟩) ?_
              exact Hj77 x1_39 x2_40 x3_41 x4_42 (0 : Int32) _ _ _ hs
          by_cases h86 : x6_33 = 0
          · rw [if_pos h86] at hs
            refine Rc.goL mt_1145 4 (f2 := (if x6_33 = 0 then 114 else 110, [.ref 0, .int x1_28, .int x2_29, .int x3_30, .int x4_31, .int x5_32, .int x6_33], [.int (3 : Int32), .ref 12], gm M36)) (b := true) rfl rfl ?_
            rw [if_pos h86]
            refine Rc.goL mt_1145 3 (f2 := (121, [.ref 0, .int x1_28, .int x2_29, .int x3_30, .int x4_31, .int x5_32, .int x6_33], [.int (4 : Int32), .int x5_32, .ref 210, .int (3 : Int32), .ref 12], gm M36)) (b := true) rfl rfl ?_
            obtain ⟨r83, M84, he85, hs⟩ := ob_some hs
            refine Rc.callV (i := 265) (mid' := 205) (av := [.int x5_32, .int (4 : Int32)]) (rest := [.int (3 : Int32), .ref 12]) (v := some (.int r83)) (M1 := gm M84) (a := 210) rfl rfl rfl cw_205 rfl (Nat.le_of_ble_eq_true rfl) rfl (Nat.le_of_ble_eq_true rfl) (qen_at_ok _ (by omega) he85) ?_
            refine Rc.less (ls2 := [.ref 0, .int x1_28, .int x2_29, .int x3_30, .int x4_31, .int x5_32, .int x6_33]) (by refine ⟨Or.inr rfl, Or.inr rfl, Or.inr rfl, Or.inr rfl, Or.inr rfl, Or.inr rfl, Or.inr rfl, trivial⟩) ?_
            exact Hj82 x1_28 x2_29 x3_30 x4_31 x5_32 x6_33 r83 _ _ _ hs
          · rw [if_neg h86] at hs
            refine Rc.goL mt_1145 4 (f2 := (if x6_33 = 0 then 114 else 110, [.ref 0, .int x1_28, .int x2_29, .int x3_30, .int x4_31, .int x5_32, .int x6_33], [.int (3 : Int32), .ref 12], gm M36)) (b := true) rfl rfl ?_
            rw [if_neg h86]
            refine Rc.goL mt_1145 1 (f2 := (124, [.ref 0, .int x1_28, .int x2_29, .int x3_30, .int x4_31, .int x5_32, .int x6_33], [.int (0 : Int32), .int (3 : Int32), .ref 12], gm M36)) (b := true) rfl rfl ?_
            refine Rc.less (ls2 := [.ref 0, .int x1_28, .int x2_29, .int x3_30, .int x4_31, .int x5_32, .int x6_33]) (by refine ⟨Or.inr rfl, Or.inr rfl, Or.inr rfl, Or.inr rfl, Or.inr rfl, Or.inr rfl, Or.inr rfl, trivial⟩) ?_
            exact Hj82 x1_28 x2_29 x3_30 x4_31 x5_32 x6_33 (0 : Int32) _ _ _ hs
        by_cases h91 : x6_22 = 0
        · rw [if_pos h91] at hs
          refine Rc.goL mt_1145 4 (f2 := (if x6_22 = 0 then 87 else 83, [.ref 0, .int x1_17, .int x2_18, .int x3_19, .int x4_20, .int x5_21, .int x6_22], [.int (2 : Int32), .ref 12], gm M25)) (b := true) rfl rfl ?_
          rw [if_pos h91]
          refine Rc.goL mt_1145 3 (f2 := (94, [.ref 0, .int x1_17, .int x2_18, .int x3_19, .int x4_20, .int x5_21, .int x6_22], [.int (2 : Int32), .int x5_21, .ref 210, .int (2 : Int32), .ref 12], gm M25)) (b := true) rfl rfl ?_
          obtain ⟨r88, M89, he90, hs⟩ := ob_some hs
          refine Rc.callV (i := 265) (mid' := 205) (av := [.int x5_21, .int (2 : Int32)]) (rest := [.int (2 : Int32), .ref 12]) (v := some (.int r88)) (M1 := gm M89) (a := 210) rfl rfl rfl cw_205 rfl (Nat.le_of_ble_eq_true rfl) rfl (Nat.le_of_ble_eq_true rfl) (qen_at_ok _ (by omega) he90) ?_
          refine Rc.less (ls2 := [.ref 0, .int x1_17, .int x2_18, .int x3_19, .int x4_20, .int x5_21, .int x6_22]) (by refine ⟨Or.inr rfl, Or.inr rfl, Or.inr rfl, Or.inr rfl, Or.inr rfl, Or.inr rfl, Or.inr rfl, trivial⟩) ?_
          exact Hj87 x1_17 x2_18 x3_19 x4_20 x5_21 x6_22 r88 _ _ _ hs
        · rw [if_neg h91] at hs
          refine Rc.goL mt_1145 4 (f2 := (if x6_22 = 0 then 87 else 83, [.ref 0, .int x1_17, .int x2_18, .int x3_19, .int x4_20, .int x5_21, .int x6_22], [.int (2 : Int32), .ref 12], gm M25)) (b := true) rfl rfl ?_
          rw [if_neg h91]
          refine Rc.goL mt_1145 1 (f2 := (97, [.ref 0, .int x1_17, .int x2_18, .int x3_19, .int x4_20, .int x5_21, .int x6_22], [.int (0 : Int32), .int (2 : Int32), .ref 12], gm M25)) (b := true) rfl rfl ?_
          refine Rc.less (ls2 := [.ref 0, .int x1_17, .int x2_18, .int x3_19, .int x4_20, .int x5_21, .int x6_22]) (by refine ⟨Or.inr rfl, Or.inr rfl, Or.inr rfl, Or.inr rfl, Or.inr rfl, Or.inr rfl, Or.inr rfl, trivial⟩) ?_
          exact Hj87 x1_17 x2_18 x3_19 x4_20 x5_21 x6_22 (0 : Int32) _ _ _ hs
      by_cases h96 : t12 = 0
      · rw [if_pos h96] at hs
        refine Rc.goL mt_1145 4 (f2 := (if t12 = 0 then 60 else 56, [.ref 0, .int x1_7, .int x2_8, .int x3_9, .int x4_10, .int x5_11, .int t12], [.int (1 : Int32), .ref 12], gm M14)) (b := true) rfl rfl ?_
        rw [if_pos h96]
        refine Rc.goL mt_1145 3 (f2 := (67, [.ref 0, .int x1_7, .int x2_8, .int x3_9, .int x4_10, .int x5_11, .int t12], [.int (3 : Int32), .int x5_11, .ref 210, .int (1 : Int32), .ref 12], gm M14)) (b := true) rfl rfl ?_
        obtain ⟨r93, M94, he95, hs⟩ := ob_some hs
        refine Rc.callV (i := 265) (mid' := 205) (av := [.int x5_11, .int (3 : Int32)]) (rest := [.int (1 : Int32), .ref 12]) (v := some (.int r93)) (M1 := gm M94) (a := 210) rfl rfl rfl cw_205 rfl (Nat.le_of_ble_eq_true rfl) rfl (Nat.le_of_ble_eq_true rfl) (qen_at_ok _ (by omega) he95) ?_
        refine Rc.less (ls2 := [.ref 0, .int x1_7, .int x2_8, .int x3_9, .int x4_10, .int x5_11, .int t12]) (by refine ⟨Or.inr rfl, Or.inr rfl, Or.inr rfl, Or.inr rfl, Or.inr rfl, Or.inr rfl, Or.inr rfl, trivial⟩) ?_
        exact Hj92 x1_7 x2_8 x3_9 x4_10 x5_11 t12 r93 _ _ _ hs
      · rw [if_neg h96] at hs
        refine Rc.goL mt_1145 4 (f2 := (if t12 = 0 then 60 else 56, [.ref 0, .int x1_7, .int x2_8, .int x3_9, .int x4_10, .int x5_11, .int t12], [.int (1 : Int32), .ref 12], gm M14)) (b := true) rfl rfl ?_
        rw [if_neg h96]
        refine Rc.goL mt_1145 1 (f2 := (70, [.ref 0, .int x1_7, .int x2_8, .int x3_9, .int x4_10, .int x5_11, .int t12], [.int (0 : Int32), .int (1 : Int32), .ref 12], gm M14)) (b := true) rfl rfl ?_
        refine Rc.less (ls2 := [.ref 0, .int x1_7, .int x2_8, .int x3_9, .int x4_10, .int x5_11, .int t12]) (by refine ⟨Or.inr rfl, Or.inr rfl, Or.inr rfl, Or.inr rfl, Or.inr rfl, Or.inr rfl, Or.inr rfl, trivial⟩) ?_
        exact Hj92 x1_7 x2_8 x3_9 x4_10 x5_11 t12 (0 : Int32) _ _ _ hs
    by_cases h98 : r4 = (-1 : Int32)
    · rw [if_pos h98] at hs
      refine Rc.goL mt_1145 3 (f2 := (if r4 = (-1 : Int32) then 33 else 37, [.ref 0, .int x1, .int x2, .int x3, .int x4, .int r4, UU], [], gm M5)) (b := true) rfl rfl ?_
      rw [if_pos h98]
      refine Rc.goL mt_1145 1 (f2 := (38, [.ref 0, .int x1, .int x2, .int x3, .int x4, .int r4, UU], [.int (1 : Int32)], gm M5)) (b := true) rfl rfl ?_
      refine Rc.less (ls2 := [.ref 0, .int x1, .int x2, .int x3, .int x4, .int r4, UU]) (by refine ⟨Or.inr rfl, Or.inr rfl, Or.inr rfl, Or.inr rfl, Or.inr rfl, Or.inr rfl, Or.inl rfl, trivial⟩) ?_
      exact Hj97 x1 x2 x3 x4 r4 (1 : Int32) _ _ _ hs
    · rw [if_neg h98] at hs
      refine Rc.goL mt_1145 3 (f2 := (if r4 = (-1 : Int32) then 33 else 37, [.ref 0, .int x1, .int x2, .int x3, .int x4, .int r4, UU], [], gm M5)) (b := true) rfl rfl ?_
      rw [if_neg h98]
      refine Rc.goL mt_1145 0 (f2 := (38, [.ref 0, .int x1, .int x2, .int x3, .int x4, .int r4, UU], [.int (0 : Int32)], gm M5)) (b := true) rfl rfl ?_
      refine Rc.less (ls2 := [.ref 0, .int x1, .int x2, .int x3, .int x4, .int r4, UU]) (by refine ⟨Or.inr rfl, Or.inr rfl, Or.inr rfl, Or.inr rfl, Or.inr rfl, Or.inr rfl, Or.inl rfl, trivial⟩) ?_
      exact Hj97 x1 x2 x3 x4 r4 (0 : Int32) _ _ _ hs
def qfr_week (x1 : Int32) (x2 : Int32) (x3 : Int32) (x4 : Int32) (M : SM) : Option (Int64 × SM) :=
  ob (qtn_hasFrame x1 M) (fun r1 M2 =>
  if r1 = 0 then
  (some ((-1 : Int64), M2)) else
  (ob (qfr_isWeek x2 M2) (fun r4 M5 =>
    if r4 = 0 then
    (some ((-1 : Int64), M5)) else
    (ob (qfr_isWeek x3 M5) (fun r7 M8 =>
      if r7 = 0 then
      (some ((-1 : Int64), M8)) else
      (ob (qfr_within x4 (0 : Int32) (7 : Int32) M8) (fun r10 M11 =>
        if r10 = 0 then
        (some ((-1 : Int64), M11)) else
        (if x4 = (5 : Int32) then
          (ob (qfr_idleWeeks x1 x2 x3 M11) (fun r13 M14 =>
            some ((Int32.toInt64 r13), M14))) else
          (if x4 = (6 : Int32) then
            (ob (qtn_holderAt x1 x2 M11) (fun r16 M17 =>
              some ((Int32.toInt64 r16), M17))) else
            (if x4 = (7 : Int32) then
              (ob (qen_knownAt x1 x2 x3 M11) (fun r19 M20 =>
                some ((Int32.toInt64 r19), M20))) else
              (ob (qtn_masterOf x1 M11) (fun r22 M23 =>
                ob (qtn_listIn r22 x2 M23) (fun r25 M26 =>
                ob (qfr_reckonWeek x1 x2 x3 r25 M26) (fun r28 M29 =>
                if r28 = 0 then
                (some ((0 : Int64), M29)) else
                (if x4 = (0 : Int32) then
                  (ob (qpr_wages M29) (fun r31 M32 =>
                    some (r31, M32))) else
                  (if x4 = (1 : Int32) then
                  (ob (qpr_rent M29) (fun r35 M36 =>
                    some (r35, M36))) else
                  (if x4 = (2 : Int32) then
                  (ob (qpr_charges M29) (fun r39 M40 =>
                    some (r39, M40))) else
                  (if x4 = (3 : Int32) then
                  (ob (qpr_truck M29) (fun r43 M44 =>
                    some (r43, M44))) else
                  (ob (qpr_netWages M29) (fun r47 M48 =>
                    some (r47, M48)))))))))))))))))))))
theorem mt_1113 : MT 1113 K_1113 LN_11 := ⟨rfl, rfl, by decide +kernel⟩
theorem okm_1113 : OKm 1113 := ⟨⟨vE_1113, okL_11, by decide +kernel⟩, by decide +kernel, by decide +kernel, by decide +kernel⟩
set_option maxRecDepth 20000 in
theorem qfr_week_ok (d : Nat) (hd : 7 ≤ d) {x1 : Int32} {x2 : Int32} {x3 : Int32} {x4 : Int32} {M : SM} {r : Int64} {Mz : SM} (hs : qfr_week x1 x2 x3 x4 M = some (r, Mz)) : Ex d 1113 [.ref 0, .int x1, .int x2, .int x3, .int x4] (gm M) (some (.long r), gm Mz) := by
  obtain ⟨d, rfl⟩ : ∃ d0, d = d0 + 1 := ⟨d - 1, by omega⟩
  refine Ex.of okm_1113 (by omega) (Nat.le_of_ble_eq_true rfl) ?_
  show Rc (d + 1) 1113 (0, [.ref 0, .int x1, .int x2, .int x3, .int x4], [], gm M) _
  unfold qfr_week at hs
  refine Rc.goL mt_1113 2 (f2 := (5, [.ref 0, .int x1, .int x2, .int x3, .int x4], [.int x1, .ref 179], gm M)) (b := true) rfl rfl ?_
  obtain ⟨r1, M2, he3, hs⟩ := ob_some hs
  refine Rc.callV (i := 196) (mid' := 1004) (av := [.int x1]) (rest := []) (v := some (.int r1)) (M1 := gm M2) (a := 179) rfl rfl rfl cw_1004 rfl (Nat.le_of_ble_eq_true rfl) rfl (Nat.le_of_ble_eq_true rfl) (qtn_hasFrame_ok _ (by omega) he3) ?_
  by_cases h57 : r1 = 0
  · rw [if_pos h57] at hs
    refine Rc.goL mt_1113 0 (f2 := (if r1 = 0 then 36 else 11, [.ref 0, .int x1, .int x2, .int x3, .int x4], [], gm M2)) (b := true) rfl rfl ?_
    rw [if_pos h57]
    refine Rc.goL mt_1113 0 (f2 := (39, [.ref 0, .int x1, .int x2, .int x3, .int x4], [.long (-1 : Int64)], gm M2)) (b := true) rfl rfl ?_
    obtain ⟨e1, e2⟩ := some_p hs; subst e1; subst e2
    exact Rc.ret (v := some (.long (-1 : Int64))) rfl rfl
  · rw [if_neg h57] at hs
    refine Rc.goL mt_1113 0 (f2 := (if r1 = 0 then 36 else 11, [.ref 0, .int x1, .int x2, .int x3, .int x4], [], gm M2)) (b := true) rfl rfl ?_
    rw [if_neg h57]
    refine Rc.goL mt_1113 0 (f2 := (12, [.ref 0, .int x1, .int x2, .int x3, .int x4], [.int x2], gm M2)) (b := true) rfl rfl ?_
    obtain ⟨r4, M5, he6, hs⟩ := ob_some hs
    refine Rc.callS (i := 155) (mid' := 1138) (av := [.int x2]) (rest := []) (v := some (.int r4)) (M1 := gm M5) rfl (Or.inl rfl) rfl cw_1138 rfl (Nat.le_of_ble_eq_true rfl) (qfr_isWeek_ok _ (by omega) he6) ?_
    by_cases h56 : r4 = 0
    · rw [if_pos h56] at hs
      refine Rc.goL mt_1113 0 (f2 := (if r4 = 0 then 36 else 18, [.ref 0, .int x1, .int x2, .int x3, .int x4], [], gm M5)) (b := true) rfl rfl ?_
      rw [if_pos h56]
      refine Rc.goL mt_1113 0 (f2 := (39, [.ref 0, .int x1, .int x2, .int x3, .int x4], [.long (-1 : Int64)], gm M5)) (b := true) rfl rfl ?_
      obtain ⟨e1, e2⟩ := some_p hs; subst e1; subst e2
      exact Rc.ret (v := some (.long (-1 : Int64))) rfl rfl
    · rw [if_neg h56] at hs
      refine Rc.goL mt_1113 0 (f2 := (if r4 = 0 then 36 else 18, [.ref 0, .int x1, .int x2, .int x3, .int x4], [], gm M5)) (b := true) rfl rfl ?_
      rw [if_neg h56]
      refine Rc.goL mt_1113 0 (f2 := (19, [.ref 0, .int x1, .int x2, .int x3, .int x4], [.int x3], gm M5)) (b := true) rfl rfl ?_
      obtain ⟨r7, M8, he9, hs⟩ := ob_some hs
      refine Rc.callS (i := 155) (mid' := 1138) (av := [.int x3]) (rest := []) (v := some (.int r7)) (M1 := gm M8) rfl (Or.inl rfl) rfl cw_1138 rfl (Nat.le_of_ble_eq_true rfl) (qfr_isWeek_ok _ (by omega) he9) ?_
      by_cases h55 : r7 = 0
      · rw [if_pos h55] at hs
        refine Rc.goL mt_1113 0 (f2 := (if r7 = 0 then 36 else 25, [.ref 0, .int x1, .int x2, .int x3, .int x4], [], gm M8)) (b := true) rfl rfl ?_
        rw [if_pos h55]
        refine Rc.goL mt_1113 0 (f2 := (39, [.ref 0, .int x1, .int x2, .int x3, .int x4], [.long (-1 : Int64)], gm M8)) (b := true) rfl rfl ?_
        obtain ⟨e1, e2⟩ := some_p hs; subst e1; subst e2
        exact Rc.ret (v := some (.long (-1 : Int64))) rfl rfl
      · rw [if_neg h55] at hs
        refine Rc.goL mt_1113 0 (f2 := (if r7 = 0 then 36 else 25, [.ref 0, .int x1, .int x2, .int x3, .int x4], [], gm M8)) (b := true) rfl rfl ?_
        rw [if_neg h55]
        refine Rc.goL mt_1113 2 (f2 := (30, [.ref 0, .int x1, .int x2, .int x3, .int x4], [.int (7 : Int32), .int (0 : Int32), .int x4], gm M8)) (b := true) rfl rfl ?_
        obtain ⟨r10, M11, he12, hs⟩ := ob_some hs
        refine Rc.callS (i := 96) (mid' := 1137) (av := [.int x4, .int (0 : Int32), .int (7 : Int32)]) (rest := []) (v := some (.int r10)) (M1 := gm M11) rfl (Or.inl rfl) rfl cw_1137 rfl (Nat.le_of_ble_eq_true rfl) (qfr_within_ok _ (by omega) he12) ?_
        by_cases h54 : r10 = 0
        · rw [if_pos h54] at hs
          refine Rc.goL mt_1113 0 (f2 := (if r10 = 0 then 36 else 40, [.ref 0, .int x1, .int x2, .int x3, .int x4], [], gm M11)) (b := true) rfl rfl ?_
          rw [if_pos h54]
          refine Rc.goL mt_1113 0 (f2 := (39, [.ref 0, .int x1, .int x2, .int x3, .int x4], [.long (-1 : Int64)], gm M11)) (b := true) rfl rfl ?_
          obtain ⟨e1, e2⟩ := some_p hs; subst e1; subst e2
          exact Rc.ret (v := some (.long (-1 : Int64))) rfl rfl
        · rw [if_neg h54] at hs
          refine Rc.goL mt_1113 0 (f2 := (if r10 = 0 then 36 else 40, [.ref 0, .int x1, .int x2, .int x3, .int x4], [], gm M11)) (b := true) rfl rfl ?_
          rw [if_neg h54]
          by_cases h53 : x4 = (5 : Int32)
          · rw [if_pos h53] at hs
            refine Rc.goL mt_1113 2 (f2 := (if x4 = (5 : Int32) then 46 else 55, [.ref 0, .int x1, .int x2, .int x3, .int x4], [], gm M11)) (b := true) rfl rfl ?_
            rw [if_pos h53]
            refine Rc.goL mt_1113 3 (f2 := (50, [.ref 0, .int x1, .int x2, .int x3, .int x4], [.int x3, .int x2, .int x1, .ref 0], gm M11)) (b := true) rfl rfl ?_
            obtain ⟨r13, M14, he15, hs⟩ := ob_some hs
            refine Rc.callV (i := 208) (mid' := 1142) (av := [.int x1, .int x2, .int x3]) (rest := []) (v := some (.int r13)) (M1 := gm M14) (a := 0) rfl rfl rfl cw_1142 rfl (Nat.le_of_ble_eq_true rfl) rfl (Nat.le_of_ble_eq_true rfl) (qfr_idleWeeks_ok _ (by omega) he15) ?_
            refine Rc.goL mt_1113 0 (f2 := (54, [.ref 0, .int x1, .int x2, .int x3, .int x4], [.long (Int32.toInt64 r13)], gm M14)) (b := true) rfl rfl ?_
            obtain ⟨e1, e2⟩ := some_p hs; subst e1; subst e2
            exact Rc.ret (v := some (.long (Int32.toInt64 r13))) rfl rfl
          · rw [if_neg h53] at hs
            refine Rc.goL mt_1113 2 (f2 := (if x4 = (5 : Int32) then 46 else 55, [.ref 0, .int x1, .int x2, .int x3, .int x4], [], gm M11)) (b := true) rfl rfl ?_
            rw [if_neg h53]
            by_cases h52 : x4 = (6 : Int32)
            · rw [if_pos h52] at hs
              refine Rc.goL mt_1113 2 (f2 := (if x4 = (6 : Int32) then 62 else 73, [.ref 0, .int x1, .int x2, .int x3, .int x4], [], gm M11)) (b := true) rfl rfl ?_
              rw [if_pos h52]
              refine Rc.goL mt_1113 3 (f2 := (68, [.ref 0, .int x1, .int x2, .int x3, .int x4], [.int x2, .int x1, .ref 179], gm M11)) (b := true) rfl rfl ?_
              obtain ⟨r16, M17, he18, hs⟩ := ob_some hs
              refine Rc.callV (i := 119) (mid' := 1014) (av := [.int x1, .int x2]) (rest := []) (v := some (.int r16)) (M1 := gm M17) (a := 179) rfl rfl rfl cw_1014 rfl (Nat.le_of_ble_eq_true rfl) rfl (Nat.le_of_ble_eq_true rfl) (qtn_holderAt_ok _ (by omega) he18) ?_
              refine Rc.goL mt_1113 0 (f2 := (72, [.ref 0, .int x1, .int x2, .int x3, .int x4], [.long (Int32.toInt64 r16)], gm M17)) (b := true) rfl rfl ?_
              obtain ⟨e1, e2⟩ := some_p hs; subst e1; subst e2
              exact Rc.ret (v := some (.long (Int32.toInt64 r16))) rfl rfl
            · rw [if_neg h52] at hs
              refine Rc.goL mt_1113 2 (f2 := (if x4 = (6 : Int32) then 62 else 73, [.ref 0, .int x1, .int x2, .int x3, .int x4], [], gm M11)) (b := true) rfl rfl ?_
              rw [if_neg h52]
              by_cases h51 : x4 = (7 : Int32)
              · rw [if_pos h51] at hs
                refine Rc.goL mt_1113 2 (f2 := (if x4 = (7 : Int32) then 80 else 92, [.ref 0, .int x1, .int x2, .int x3, .int x4], [], gm M11)) (b := true) rfl rfl ?_
                rw [if_pos h51]
                refine Rc.goL mt_1113 4 (f2 := (87, [.ref 0, .int x1, .int x2, .int x3, .int x4], [.int x3, .int x2, .int x1, .ref 210], gm M11)) (b := true) rfl rfl ?_
                obtain ⟨r19, M20, he21, hs⟩ := ob_some hs
                refine Rc.callV (i := 211) (mid' := 206) (av := [.int x1, .int x2, .int x3]) (rest := []) (v := some (.int r19)) (M1 := gm M20) (a := 210) rfl rfl rfl cw_206 rfl (Nat.le_of_ble_eq_true rfl) rfl (Nat.le_of_ble_eq_true rfl) (qen_knownAt_ok _ (by omega) he21) ?_
                refine Rc.goL mt_1113 0 (f2 := (91, [.ref 0, .int x1, .int x2, .int x3, .int x4], [.long (Int32.toInt64 r19)], gm M20)) (b := true) rfl rfl ?_
                obtain ⟨e1, e2⟩ := some_p hs; subst e1; subst e2
                exact Rc.ret (v := some (.long (Int32.toInt64 r19))) rfl rfl
              · rw [if_neg h51] at hs
                refine Rc.goL mt_1113 2 (f2 := (if x4 = (7 : Int32) then 80 else 92, [.ref 0, .int x1, .int x2, .int x3, .int x4], [], gm M11)) (b := true) rfl rfl ?_
                rw [if_neg h51]
                refine Rc.goL mt_1113 6 (f2 := (101, [.ref 0, .int x1, .int x2, .int x3, .int x4], [.ref 0, .ref 179, .int x3, .int x2, .int x1, .ref 0], gm M11)) (b := true) rfl rfl ?_
                refine Rc.goL mt_1113 1 (f2 := (105, [.ref 0, .int x1, .int x2, .int x3, .int x4], [.int x1, .ref 179, .ref 179, .int x3, .int x2, .int x1, .ref 0], gm M11)) (b := true) rfl rfl ?_
                obtain ⟨r22, M23, he24, hs⟩ := ob_some hs
                refine Rc.callV (i := 214) (mid' := 1018) (av := [.int x1]) (rest := [.ref 179, .int x3, .int x2, .int x1, .ref 0]) (v := some (.int r22)) (M1 := gm M23) (a := 179) rfl rfl rfl cw_1018 rfl (Nat.le_of_ble_eq_true rfl) rfl (Nat.le_of_ble_eq_true rfl) (qtn_masterOf_ok _ (by omega) he24) ?_
                refine Rc.goL mt_1113 0 (f2 := (109, [.ref 0, .int x1, .int x2, .int x3, .int x4], [.int x2, .int r22, .ref 179, .int x3, .int x2, .int x1, .ref 0], gm M23)) (b := true) rfl rfl ?_
                obtain ⟨r25, M26, he27, hs⟩ := ob_some hs
                refine Rc.callV (i := 176) (mid' := 1015) (av := [.int r22, .int x2]) (rest := [.int x3, .int x2, .int x1, .ref 0]) (v := some (.int r25)) (M1 := gm M26) (a := 179) rfl rfl rfl cw_1015 rfl (Nat.le_of_ble_eq_true rfl) rfl (Nat.le_of_ble_eq_true rfl) (qtn_listIn_ok _ (by omega) he27) ?_
                obtain ⟨r28, M29, he30, hs⟩ := ob_some hs
                refine Rc.callV (i := 217) (mid' := 1145) (av := [.int x1, .int x2, .int x3, .int r25]) (rest := []) (v := some (.int r28)) (M1 := gm M29) (a := 0) rfl rfl rfl cw_1145 rfl (Nat.le_of_ble_eq_true rfl) rfl (Nat.le_of_ble_eq_true rfl) (qfr_reckonWeek_ok _ (by omega) he30) ?_
                by_cases h50 : r28 = 0
                · rw [if_pos h50] at hs
                  refine Rc.goL mt_1113 0 (f2 := (if r28 = 0 then 118 else 120, [.ref 0, .int x1, .int x2, .int x3, .int x4], [], gm M29)) (b := true) rfl rfl ?_
                  rw [if_pos h50]
                  refine Rc.goL mt_1113 0 (f2 := (119, [.ref 0, .int x1, .int x2, .int x3, .int x4], [.long (0 : Int64)], gm M29)) (b := true) rfl rfl ?_
                  obtain ⟨e1, e2⟩ := some_p hs; subst e1; subst e2
                  exact Rc.ret (v := some (.long (0 : Int64))) rfl rfl
                · rw [if_neg h50] at hs
                  refine Rc.goL mt_1113 0 (f2 := (if r28 = 0 then 118 else 120, [.ref 0, .int x1, .int x2, .int x3, .int x4], [], gm M29)) (b := true) rfl rfl ?_
                  rw [if_neg h50]
                  refine Rc.goL mt_1113 1 (f2 := (swl [(0, 152), (1, 160), (2, 168), (3, 176)] 184 x4, [.ref 0, .int x1, .int x2, .int x3, .int x4], [], gm M29)) (b := true) rfl rfl ?_
                  by_cases h34 : x4 = (0 : Int32)
                  · rw [if_pos h34] at hs
                    rw [show swl [(0, 152), (1, 160), (2, 168), (3, 176)] 184 x4 = 152 by first | (simp only [swl, if_pos h34]; done) | (rw [h34]; decide)]
                    refine Rc.goL mt_1113 1 (f2 := (156, [.ref 0, .int x1, .int x2, .int x3, .int x4], [.ref 12], gm M29)) (b := true) rfl rfl ?_
                    obtain ⟨r31, M32, he33, hs⟩ := ob_some hs
                    refine Rc.callV (i := 221) (mid' := 614) (av := []) (rest := []) (v := some (.long r31)) (M1 := gm M32) (a := 12) rfl rfl rfl cw_614 rfl (Nat.le_of_ble_eq_true rfl) rfl (Nat.le_of_ble_eq_true rfl) (qpr_wages_ok _ (by omega) he33) ?_
                    obtain ⟨e1, e2⟩ := some_p hs; subst e1; subst e2
                    exact Rc.ret (v := some (.long r31)) rfl rfl
                  · rw [if_neg h34] at hs
                    by_cases h38 : x4 = (1 : Int32)
                    · rw [if_pos h38] at hs
                      rw [show swl [(0, 152), (1, 160), (2, 168), (3, 176)] 184 x4 = 160 by first | (simp only [swl, if_pos h38]; done) | (rw [h38]; decide)]
                      refine Rc.goL mt_1113 1 (f2 := (164, [.ref 0, .int x1, .int x2, .int x3, .int x4], [.ref 12], gm M29)) (b := true) rfl rfl ?_
                      obtain ⟨r35, M36, he37, hs⟩ := ob_some hs
                      refine Rc.callV (i := 225) (mid' := 615) (av := []) (rest := []) (v := some (.long r35)) (M1 := gm M36) (a := 12) rfl rfl rfl cw_615 rfl (Nat.le_of_ble_eq_true rfl) rfl (Nat.le_of_ble_eq_true rfl) (qpr_rent_ok _ (by omega) he37) ?_
                      obtain ⟨e1, e2⟩ := some_p hs; subst e1; subst e2
                      exact Rc.ret (v := some (.long r35)) rfl rfl
                    · rw [if_neg h38] at hs
                      by_cases h42 : x4 = (2 : Int32)
                      · rw [if_pos h42] at hs
                        rw [show swl [(0, 152), (1, 160), (2, 168), (3, 176)] 184 x4 = 168 by first | (simp only [swl, if_pos h42]; done) | (rw [h42]; decide)]
                        refine Rc.goL mt_1113 1 (f2 := (172, [.ref 0, .int x1, .int x2, .int x3, .int x4], [.ref 12], gm M29)) (b := true) rfl rfl ?_
                        obtain ⟨r39, M40, he41, hs⟩ := ob_some hs
                        refine Rc.callV (i := 228) (mid' := 616) (av := []) (rest := []) (v := some (.long r39)) (M1 := gm M40) (a := 12) rfl rfl rfl cw_616 rfl (Nat.le_of_ble_eq_true rfl) rfl (Nat.le_of_ble_eq_true rfl) (qpr_charges_ok _ (by omega) he41) ?_
                        obtain ⟨e1, e2⟩ := some_p hs; subst e1; subst e2
                        exact Rc.ret (v := some (.long r39)) rfl rfl
                      · rw [if_neg h42] at hs
                        by_cases h46 : x4 = (3 : Int32)
                        · rw [if_pos h46] at hs
                          rw [show swl [(0, 152), (1, 160), (2, 168), (3, 176)] 184 x4 = 176 by first | (simp only [swl, if_pos h46]; done) | (rw [h46]; decide)]
                          refine Rc.goL mt_1113 1 (f2 := (180, [.ref 0, .int x1, .int x2, .int x3, .int x4], [.ref 12], gm M29)) (b := true) rfl rfl ?_
                          obtain ⟨r43, M44, he45, hs⟩ := ob_some hs
                          refine Rc.callV (i := 231) (mid' := 618) (av := []) (rest := []) (v := some (.long r43)) (M1 := gm M44) (a := 12) rfl rfl rfl cw_618 rfl (Nat.le_of_ble_eq_true rfl) rfl (Nat.le_of_ble_eq_true rfl) (qpr_truck_ok _ (by omega) he45) ?_
                          obtain ⟨e1, e2⟩ := some_p hs; subst e1; subst e2
                          exact Rc.ret (v := some (.long r43)) rfl rfl
                        · rw [if_neg h46] at hs
                          rw [show swl [(0, 152), (1, 160), (2, 168), (3, 176)] 184 x4 = 184 by simp only [swl, if_neg h34, if_neg h38, if_neg h42, if_neg h46]]
                          refine Rc.goL mt_1113 1 (f2 := (188, [.ref 0, .int x1, .int x2, .int x3, .int x4], [.ref 12], gm M29)) (b := true) rfl rfl ?_
                          obtain ⟨r47, M48, he49, hs⟩ := ob_some hs
                          refine Rc.callV (i := 234) (mid' := 617) (av := []) (rest := []) (v := some (.long r47)) (M1 := gm M48) (a := 12) rfl rfl rfl cw_617 rfl (Nat.le_of_ble_eq_true rfl) rfl (Nat.le_of_ble_eq_true rfl) (qpr_netWages_ok _ (by omega) he49) ?_
                          obtain ⟨e1, e2⟩ := some_p hs; subst e1; subst e2
                          exact Rc.ret (v := some (.long r47)) rfl rfl
def qfr_earned_L33 (k149 : Int32 → Int32 → Int64 → SM → Option (Int64 × SM)) : Nat → Int32 → Int32 → Int32 → Int32 → Int64 → Int32 → SM → Option (Int64 × SM)
  | 0, _, _, _, _, _, _, _ => none
  | n + 1, x1, x2, x3, x4, x5, x7, M =>
    if x7 < (M.1 179 3) then
    (ob (qtn_masterOf x7 M) (fun r10 M11 =>
      ob (qtn_holderAt x7 x2 M11) (fun r13 M14 =>
      if r13 = x1 then
      (ob (qtn_listIn r10 x2 M14) (fun r16 M17 =>
        ob (qfr_reckonWeek x7 x2 x3 r16 M17) (fun r19 M20 =>
        if r19 = 0 then
        (qfr_earned_L33 k149 n x1 x2 x3 x4 x5 (x7 + (1 : Int32)) M20) else
        (ob (qpr_truck M20) (fun r22 M23 =>
          ob (qpr_netWages M23) (fun r25 M26 =>
          ob (qtn_overOf r10 M26) (fun r28 M29 =>
          ck (decide (¬ (Int32.toInt64 ((100 : Int32) + (imx (0 : Int32) r28))) = 0) && true) (
          lt (x5 + ((r25 - r22) + ((r22 * (100 : Int64)) / (Int32.toInt64 ((100 : Int32) + (imx (0 : Int32) r28)))))) (fun (z32 : Int64) =>
          qfr_earned_L33 k149 n x1 x2 x3 x4 z32 (x7 + (1 : Int32)) M29))))))))) else
      (qfr_earned_L33 k149 n x1 x2 x3 x4 x5 (x7 + (1 : Int32)) M14)))) else
    (k149 x1 x4 x5 M)
def qfr_earned (x1 : Int32) (x2 : Int32) (x3 : Int32) (x4 : Int32) (M : SM) : Option (Int64 × SM) :=
  ob (qtn_hasKnitter x1 M) (fun r1 M2 =>
  if r1 = 0 then
  (some ((0 : Int64), M2)) else
  (ob (qfr_isWeek x2 M2) (fun r4 M5 =>
    if r4 = 0 then
    (some ((0 : Int64), M5)) else
    (ob (qfr_isWeek x3 M5) (fun r7 M8 =>
      if r7 = 0 then
      (some ((0 : Int64), M8)) else
      (qfr_earned_L33 (fun y1_36 y4_37 y5_38 M39 =>
        if y4_37 = 0 then
          (some (y5_38, M39)) else
          (ob (qtn_headsOf y1_36 M39) (fun r40 M41 =>
            some ((lmx (0 : Int64) (((Int32.toInt64 (M39.1 0 10)) * (Int32.toInt64 r40)) - y5_38)), M41)))) FU x1 x2 x3 x4 (0 : Int64) (0 : Int32) M8))))))
theorem mt_1114 : MT 1114 K_1114 LN_11 := ⟨rfl, rfl, by decide +kernel⟩
theorem okm_1114 : OKm 1114 := ⟨⟨vE_1114, okL_11, by decide +kernel⟩, by decide +kernel, by decide +kernel, by decide +kernel⟩
set_option maxRecDepth 20000 in
theorem qfr_earned_L33_ok (d : Nat) (hd : 7 ≤ d + 1) (k149 : Int32 → Int32 → Int64 → SM → Option (Int64 × SM)) (hk149 : ∀ (y1 : Int32) (y4 : Int32) (y5 : Int64) (M : SM) (r : Int64) (Mz : SM), k149 y1 y4 y5 M = some (r, Mz) → Rc (d + 1) 1114 (149, [.ref 0, .int y1, UU, UU, .int y4, .long y5, UU, UU, UU, UU, UU], [], gm M) (some (.long r), gm Mz)) : ∀ (n : Nat) (x1 : Int32) (x2 : Int32) (x3 : Int32) (x4 : Int32) (x5 : Int64) (x7 : Int32) (M : SM) (r : Int64) (Mz : SM), qfr_earned_L33 k149 n x1 x2 x3 x4 x5 x7 M = some (r, Mz) → Rc (d + 1) 1114 (33, [.ref 0, .int x1, .int x2, .int x3, .int x4, .long x5, UU, .int x7, UU, UU, UU], [], gm M) (some (.long r), gm Mz) := by
  intro n
  induction n with
  | zero => intro x1 x2 x3 x4 x5 x7 M r Mz hs; cases hs
  | succ n ih =>
    intro x1 x2 x3 x4 x5 x7 M r Mz hs
    rw [qfr_earned_L33] at hs
    by_cases h35 : x7 < (M.1 179 3)
    · rw [if_pos h35] at hs
      refine Rc.goL mt_1114 4 (f2 := (if x7 < (M.1 179 3) then 45 else 149, [.ref 0, .int x1, .int x2, .int x3, .int x4, .long x5, UU, .int x7, UU, UU, UU], [], gm M)) (b := true) rfl rfl ?_
      rw [if_pos h35]
      refine Rc.goL mt_1114 2 (f2 := (51, [.ref 0, .int x1, .int x2, .int x3, .int x4, .long x5, UU, .int x7, UU, UU, UU], [.int x7, .ref 179], gm M)) (b := true) rfl rfl ?_
      obtain ⟨r10, M11, he12, hs⟩ := ob_some hs
      refine Rc.callV (i := 214) (mid' := 1018) (av := [.int x7]) (rest := []) (v := some (.int r10)) (M1 := gm M11) (a := 179) rfl rfl rfl cw_1018 rfl (Nat.le_of_ble_eq_true rfl) rfl (Nat.le_of_ble_eq_true rfl) (qtn_masterOf_ok _ (by omega) he12) ?_
      refine Rc.goL mt_1114 4 (f2 := (63, [.ref 0, .int x1, .int x2, .int x3, .int x4, .long x5, UU, .int x7, .int r10, UU, UU], [.int x2, .int x7, .ref 179], gm M11)) (b := true) rfl rfl ?_
      obtain ⟨r13, M14, he15, hs⟩ := ob_some hs
      refine Rc.callV (i := 119) (mid' := 1014) (av := [.int x7, .int x2]) (rest := []) (v := some (.int r13)) (M1 := gm M14) (a := 179) rfl rfl rfl cw_1014 rfl (Nat.le_of_ble_eq_true rfl) rfl (Nat.le_of_ble_eq_true rfl) (qtn_holderAt_ok _ (by omega) he15) ?_
      by_cases h34 : r13 = x1
      · rw [if_pos h34] at hs
        refine Rc.goL mt_1114 1 (f2 := (if r13 = x1 then 70 else 143, [.ref 0, .int x1, .int x2, .int x3, .int x4, .long x5, UU, .int x7, .int r10, UU, UU], [], gm M14)) (b := true) rfl rfl ?_
        rw [if_pos h34]
        refine Rc.goL mt_1114 6 (f2 := (81, [.ref 0, .int x1, .int x2, .int x3, .int x4, .long x5, UU, .int x7, .int r10, UU, UU], [.int r10, .ref 179, .int x3, .int x2, .int x7, .ref 0], gm M14)) (b := true) rfl rfl ?_
        refine Rc.goL mt_1114 0 (f2 := (82, [.ref 0, .int x1, .int x2, .int x3, .int x4, .long x5, UU, .int x7, .int r10, UU, UU], [.int x2, .int r10, .ref 179, .int x3, .int x2, .int x7, .ref 0], gm M14)) (b := true) rfl rfl ?_
        obtain ⟨r16, M17, he18, hs⟩ := ob_some hs
        refine Rc.callV (i := 176) (mid' := 1015) (av := [.int r10, .int x2]) (rest := [.int x3, .int x2, .int x7, .ref 0]) (v := some (.int r16)) (M1 := gm M17) (a := 179) rfl rfl rfl cw_1015 rfl (Nat.le_of_ble_eq_true rfl) rfl (Nat.le_of_ble_eq_true rfl) (qtn_listIn_ok _ (by omega) he18) ?_
        obtain ⟨r19, M20, he21, hs⟩ := ob_some hs
        refine Rc.callV (i := 217) (mid' := 1145) (av := [.int x7, .int x2, .int x3, .int r16]) (rest := []) (v := some (.int r19)) (M1 := gm M20) (a := 0) rfl rfl rfl cw_1145 rfl (Nat.le_of_ble_eq_true rfl) rfl (Nat.le_of_ble_eq_true rfl) (qfr_reckonWeek_ok _ (by omega) he21) ?_
        by_cases h33 : r19 = 0
        · rw [if_pos h33] at hs
          refine Rc.goL mt_1114 0 (f2 := (if r19 = 0 then 91 else 94, [.ref 0, .int x1, .int x2, .int x3, .int x4, .long x5, UU, .int x7, .int r10, UU, UU], [], gm M20)) (b := true) rfl rfl ?_
          rw [if_pos h33]
          refine Rc.goL mt_1114 0 (f2 := (143, [.ref 0, .int x1, .int x2, .int x3, .int x4, .long x5, UU, .int x7, .int r10, UU, UU], [], gm M20)) (b := true) rfl rfl ?_
          refine Rc.goL mt_1114 1 (f2 := (33, [.ref 0, .int x1, .int x2, .int x3, .int x4, .long x5, UU, .int (x7 + (1 : Int32)), .int r10, UU, UU], [], gm M20)) (b := true) rfl rfl ?_
          refine Rc.less (ls2 := [.ref 0, .int x1, .int x2, .int x3, .int x4, .long x5, UU, .int (x7 + (1 : Int32)), UU, UU, UU]) (by refine ⟨Or.inr rfl, Or.inr rfl, Or.inr rfl, Or.inr rfl, Or.inr rfl, Or.inr rfl, Or.inl rfl, Or.inr rfl, Or.inl rfl, Or.inl rfl, Or.inl rfl, trivial⟩) ?_
          exact ih x1 x2 x3 x4 x5 (x7 + (1 : Int32)) _ _ _ hs
        · rw [if_neg h33] at hs
          refine Rc.goL mt_1114 0 (f2 := (if r19 = 0 then 91 else 94, [.ref 0, .int x1, .int x2, .int x3, .int x4, .long x5, UU, .int x7, .int r10, UU, UU], [], gm M20)) (b := true) rfl rfl ?_
          rw [if_neg h33]
          refine Rc.goL mt_1114 1 (f2 := (98, [.ref 0, .int x1, .int x2, .int x3, .int x4, .long x5, UU, .int x7, .int r10, UU, UU], [.ref 12], gm M20)) (b := true) rfl rfl ?_
          obtain ⟨r22, M23, he24, hs⟩ := ob_some hs
          refine Rc.callV (i := 231) (mid' := 618) (av := []) (rest := []) (v := some (.long r22)) (M1 := gm M23) (a := 12) rfl rfl rfl cw_618 rfl (Nat.le_of_ble_eq_true rfl) rfl (Nat.le_of_ble_eq_true rfl) (qpr_truck_ok _ (by omega) he24) ?_
          refine Rc.goL mt_1114 3 (f2 := (109, [.ref 0, .int x1, .int x2, .int x3, .int x4, .long x5, UU, .int x7, .int r10, .long r22, UU], [.ref 12, .long x5], gm M23)) (b := true) rfl rfl ?_
          obtain ⟨r25, M26, he27, hs⟩ := ob_some hs
          refine Rc.callV (i := 234) (mid' := 617) (av := []) (rest := [.long x5]) (v := some (.long r25)) (M1 := gm M26) (a := 12) rfl rfl rfl cw_617 rfl (Nat.le_of_ble_eq_true rfl) rfl (Nat.le_of_ble_eq_true rfl) (qpr_netWages_ok _ (by omega) he27) ?_
          refine Rc.goL mt_1114 6 (f2 := (124, [.ref 0, .int x1, .int x2, .int x3, .int x4, .long x5, UU, .int x7, .int r10, .long r22, UU], [.int (0 : Int32), .int (100 : Int32), .long (r22 * (100 : Int64)), .long (r25 - r22), .long x5], gm M26)) (b := true) rfl rfl ?_
          refine Rc.goL mt_1114 2 (f2 := (130, [.ref 0, .int x1, .int x2, .int x3, .int x4, .long x5, UU, .int x7, .int r10, .long r22, UU], [.int r10, .ref 179, .int (0 : Int32), .int (100 : Int32), .long (r22 * (100 : Int64)), .long (r25 - r22), .long x5], gm M26)) (b := true) rfl rfl ?_
          obtain ⟨r28, M29, he30, hs⟩ := ob_some hs
          refine Rc.callV (i := 242) (mid' := 1020) (av := [.int r10]) (rest := [.int (0 : Int32), .int (100 : Int32), .long (r22 * (100 : Int64)), .long (r25 - r22), .long x5]) (v := some (.int r28)) (M1 := gm M29) (a := 179) rfl rfl rfl cw_1020 rfl (Nat.le_of_ble_eq_true rfl) rfl (Nat.le_of_ble_eq_true rfl) (qtn_overOf_ok _ (by omega) he30) ?_
          obtain ⟨hb31, hs⟩ := ck_some hs
          refine lt_g hs (fun z32 Hz32 hs => ?_)
          refine Rc.goL mt_1114 6 (f2 := (143, [.ref 0, .int x1, .int x2, .int x3, .int x4, .long z32, UU, .int x7, .int r10, .long r22, UU], [], gm M29)) (b := (decide (¬ (Int32.toInt64 ((100 : Int32) + (imx (0 : Int32) r28))) = 0) && true)) (by subst Hz32; rfl) hb31 ?_
          refine Rc.goL mt_1114 1 (f2 := (33, [.ref 0, .int x1, .int x2, .int x3, .int x4, .long z32, UU, .int (x7 + (1 : Int32)), .int r10, .long r22, UU], [], gm M29)) (b := true) rfl rfl ?_
          refine Rc.less (ls2 := [.ref 0, .int x1, .int x2, .int x3, .int x4, .long z32, UU, .int (x7 + (1 : Int32)), UU, UU, UU]) (by refine ⟨Or.inr rfl, Or.inr rfl, Or.inr rfl, Or.inr rfl, Or.inr rfl, Or.inr rfl, Or.inl rfl, Or.inr rfl, Or.inl rfl, Or.inl rfl, Or.inl rfl, trivial⟩) ?_
          exact ih x1 x2 x3 x4 z32 (x7 + (1 : Int32)) _ _ _ hs
      · rw [if_neg h34] at hs
        refine Rc.goL mt_1114 1 (f2 := (if r13 = x1 then 70 else 143, [.ref 0, .int x1, .int x2, .int x3, .int x4, .long x5, UU, .int x7, .int r10, UU, UU], [], gm M14)) (b := true) rfl rfl ?_
        rw [if_neg h34]
        refine Rc.goL mt_1114 1 (f2 := (33, [.ref 0, .int x1, .int x2, .int x3, .int x4, .long x5, UU, .int (x7 + (1 : Int32)), .int r10, UU, UU], [], gm M14)) (b := true) rfl rfl ?_
        refine Rc.less (ls2 := [.ref 0, .int x1, .int x2, .int x3, .int x4, .long x5, UU, .int (x7 + (1 : Int32)), UU, UU, UU]) (by refine ⟨Or.inr rfl, Or.inr rfl, Or.inr rfl, Or.inr rfl, Or.inr rfl, Or.inr rfl, Or.inl rfl, Or.inr rfl, Or.inl rfl, Or.inl rfl, Or.inl rfl, trivial⟩) ?_
        exact ih x1 x2 x3 x4 x5 (x7 + (1 : Int32)) _ _ _ hs
    · rw [if_neg h35] at hs
      refine Rc.goL mt_1114 4 (f2 := (if x7 < (M.1 179 3) then 45 else 149, [.ref 0, .int x1, .int x2, .int x3, .int x4, .long x5, UU, .int x7, UU, UU, UU], [], gm M)) (b := true) rfl rfl ?_
      rw [if_neg h35]
      refine Rc.less (ls2 := [.ref 0, .int x1, UU, UU, .int x4, .long x5, UU, UU, UU, UU, UU]) (by refine ⟨Or.inr rfl, Or.inr rfl, Or.inl rfl, Or.inl rfl, Or.inr rfl, Or.inr rfl, Or.inl rfl, Or.inl rfl, Or.inl rfl, Or.inl rfl, Or.inl rfl, trivial⟩) ?_
      exact hk149 x1 x4 x5 _ _ _ hs
set_option maxRecDepth 20000 in
theorem qfr_earned_ok (d : Nat) (hd : 7 ≤ d) {x1 : Int32} {x2 : Int32} {x3 : Int32} {x4 : Int32} {M : SM} {r : Int64} {Mz : SM} (hs : qfr_earned x1 x2 x3 x4 M = some (r, Mz)) : Ex d 1114 [.ref 0, .int x1, .int x2, .int x3, .int x4] (gm M) (some (.long r), gm Mz) := by
  obtain ⟨d, rfl⟩ : ∃ d0, d = d0 + 1 := ⟨d - 1, by omega⟩
  refine Ex.of okm_1114 (by omega) (Nat.le_of_ble_eq_true rfl) ?_
  show Rc (d + 1) 1114 (0, [.ref 0, .int x1, .int x2, .int x3, .int x4, UU, UU, UU, UU, UU, UU], [], gm M) _
  unfold qfr_earned at hs
  refine Rc.goL mt_1114 2 (f2 := (5, [.ref 0, .int x1, .int x2, .int x3, .int x4, UU, UU, UU, UU, UU, UU], [.int x1, .ref 179], gm M)) (b := true) rfl rfl ?_
  obtain ⟨r1, M2, he3, hs⟩ := ob_some hs
  refine Rc.callV (i := 106) (mid' := 1003) (av := [.int x1]) (rest := []) (v := some (.int r1)) (M1 := gm M2) (a := 179) rfl rfl rfl cw_1003 rfl (Nat.le_of_ble_eq_true rfl) rfl (Nat.le_of_ble_eq_true rfl) (qtn_hasKnitter_ok _ (by omega) he3) ?_
  by_cases h46 : r1 = 0
  · rw [if_pos h46] at hs
    refine Rc.goL mt_1114 0 (f2 := (if r1 = 0 then 25 else 11, [.ref 0, .int x1, .int x2, .int x3, .int x4, UU, UU, UU, UU, UU, UU], [], gm M2)) (b := true) rfl rfl ?_
    rw [if_pos h46]
    refine Rc.goL mt_1114 0 (f2 := (26, [.ref 0, .int x1, .int x2, .int x3, .int x4, UU, UU, UU, UU, UU, UU], [.long (0 : Int64)], gm M2)) (b := true) rfl rfl ?_
    obtain ⟨e1, e2⟩ := some_p hs; subst e1; subst e2
    exact Rc.ret (v := some (.long (0 : Int64))) rfl rfl
  · rw [if_neg h46] at hs
    refine Rc.goL mt_1114 0 (f2 := (if r1 = 0 then 25 else 11, [.ref 0, .int x1, .int x2, .int x3, .int x4, UU, UU, UU, UU, UU, UU], [], gm M2)) (b := true) rfl rfl ?_
    rw [if_neg h46]
    refine Rc.goL mt_1114 0 (f2 := (12, [.ref 0, .int x1, .int x2, .int x3, .int x4, UU, UU, UU, UU, UU, UU], [.int x2], gm M2)) (b := true) rfl rfl ?_
    obtain ⟨r4, M5, he6, hs⟩ := ob_some hs
    refine Rc.callS (i := 155) (mid' := 1138) (av := [.int x2]) (rest := []) (v := some (.int r4)) (M1 := gm M5) rfl (Or.inl rfl) rfl cw_1138 rfl (Nat.le_of_ble_eq_true rfl) (qfr_isWeek_ok _ (by omega) he6) ?_
    by_cases h45 : r4 = 0
    · rw [if_pos h45] at hs
      refine Rc.goL mt_1114 0 (f2 := (if r4 = 0 then 25 else 18, [.ref 0, .int x1, .int x2, .int x3, .int x4, UU, UU, UU, UU, UU, UU], [], gm M5)) (b := true) rfl rfl ?_
      rw [if_pos h45]
      refine Rc.goL mt_1114 0 (f2 := (26, [.ref 0, .int x1, .int x2, .int x3, .int x4, UU, UU, UU, UU, UU, UU], [.long (0 : Int64)], gm M5)) (b := true) rfl rfl ?_
      obtain ⟨e1, e2⟩ := some_p hs; subst e1; subst e2
      exact Rc.ret (v := some (.long (0 : Int64))) rfl rfl
    · rw [if_neg h45] at hs
      refine Rc.goL mt_1114 0 (f2 := (if r4 = 0 then 25 else 18, [.ref 0, .int x1, .int x2, .int x3, .int x4, UU, UU, UU, UU, UU, UU], [], gm M5)) (b := true) rfl rfl ?_
      rw [if_neg h45]
      refine Rc.goL mt_1114 0 (f2 := (19, [.ref 0, .int x1, .int x2, .int x3, .int x4, UU, UU, UU, UU, UU, UU], [.int x3], gm M5)) (b := true) rfl rfl ?_
      obtain ⟨r7, M8, he9, hs⟩ := ob_some hs
      refine Rc.callS (i := 155) (mid' := 1138) (av := [.int x3]) (rest := []) (v := some (.int r7)) (M1 := gm M8) rfl (Or.inl rfl) rfl cw_1138 rfl (Nat.le_of_ble_eq_true rfl) (qfr_isWeek_ok _ (by omega) he9) ?_
      by_cases h44 : r7 = 0
      · rw [if_pos h44] at hs
        refine Rc.goL mt_1114 0 (f2 := (if r7 = 0 then 25 else 27, [.ref 0, .int x1, .int x2, .int x3, .int x4, UU, UU, UU, UU, UU, UU], [], gm M8)) (b := true) rfl rfl ?_
        rw [if_pos h44]
        refine Rc.goL mt_1114 0 (f2 := (26, [.ref 0, .int x1, .int x2, .int x3, .int x4, UU, UU, UU, UU, UU, UU], [.long (0 : Int64)], gm M8)) (b := true) rfl rfl ?_
        obtain ⟨e1, e2⟩ := some_p hs; subst e1; subst e2
        exact Rc.ret (v := some (.long (0 : Int64))) rfl rfl
      · rw [if_neg h44] at hs
        refine Rc.goL mt_1114 0 (f2 := (if r7 = 0 then 25 else 27, [.ref 0, .int x1, .int x2, .int x3, .int x4, UU, UU, UU, UU, UU, UU], [], gm M8)) (b := true) rfl rfl ?_
        rw [if_neg h44]
        refine Rc.goL mt_1114 3 (f2 := (33, [.ref 0, .int x1, .int x2, .int x3, .int x4, .long (0 : Int64), UU, .int (0 : Int32), UU, UU, UU], [], gm M8)) (b := true) rfl rfl ?_
        refine Rc.less (ls2 := [.ref 0, .int x1, .int x2, .int x3, .int x4, .long (0 : Int64), UU, .int (0 : Int32), UU, UU, UU]) (by refine ⟨Or.inr rfl, Or.inr rfl, Or.inr rfl, Or.inr rfl, Or.inr rfl, Or.inr rfl, Or.inl rfl, Or.inr rfl, Or.inl rfl, Or.inl rfl, Or.inl rfl, trivial⟩) ?_
        refine qfr_earned_L33_ok d hd _ (fun y1_36 y4_37 y5_38 M39 r Mz hs => ?_) _ x1 x2 x3 x4 (0 : Int64) (0 : Int32) _ _ _ hs
        · by_cases h43 : y4_37 = 0
          · rw [if_pos h43] at hs
            refine Rc.goL mt_1114 1 (f2 := (if y4_37 = 0 then 154 else 157, [.ref 0, .int y1_36, UU, UU, .int y4_37, .long y5_38, UU, UU, UU, UU, UU], [], gm M39)) (b := true) rfl rfl ?_
            rw [if_pos h43]
            refine Rc.goL mt_1114 0 (f2 := (156, [.ref 0, .int y1_36, UU, UU, .int y4_37, .long y5_38, UU, UU, UU, UU, UU], [.long y5_38], gm M39)) (b := true) rfl rfl ?_
            obtain ⟨e1, e2⟩ := some_p hs; subst e1; subst e2
            exact Rc.ret (v := some (.long y5_38)) rfl rfl
          · rw [if_neg h43] at hs
            refine Rc.goL mt_1114 1 (f2 := (if y4_37 = 0 then 154 else 157, [.ref 0, .int y1_36, UU, UU, .int y4_37, .long y5_38, UU, UU, UU, UU, UU], [], gm M39)) (b := true) rfl rfl ?_
            rw [if_neg h43]
            refine Rc.goL mt_1114 6 (f2 := (168, [.ref 0, .int y1_36, UU, UU, .int y4_37, .long y5_38, UU, UU, UU, UU, UU], [.int y1_36, .ref 179, .long (Int32.toInt64 (M39.1 0 10)), .long (0 : Int64)], gm M39)) (b := true) rfl rfl ?_
            obtain ⟨r40, M41, he42, hs⟩ := ob_some hs
            refine Rc.callV (i := 250) (mid' := 1019) (av := [.int y1_36]) (rest := [.long (Int32.toInt64 (M39.1 0 10)), .long (0 : Int64)]) (v := some (.int r40)) (M1 := gm M41) (a := 179) rfl rfl rfl cw_1019 rfl (Nat.le_of_ble_eq_true rfl) rfl (Nat.le_of_ble_eq_true rfl) (qtn_headsOf_ok _ (by omega) he42) ?_
            refine Rc.goL mt_1114 4 (f2 := (179, [.ref 0, .int y1_36, UU, UU, .int y4_37, .long y5_38, UU, UU, UU, UU, UU], [.long (lmx (0 : Int64) (((Int32.toInt64 (M39.1 0 10)) * (Int32.toInt64 r40)) - y5_38))], gm M41)) (b := true) rfl rfl ?_
            obtain ⟨e1, e2⟩ := some_p hs; subst e1; subst e2
            exact Rc.ret (v := some (.long (lmx (0 : Int64) (((Int32.toInt64 (M39.1 0 10)) * (Int32.toInt64 r40)) - y5_38)))) rfl rfl
def qfr_number (x1 : Int32) (x2 : Int32) (M : SM) : Option (Int32 × SM) :=
  jn (fun (x1_1 : Int32) (x2_2 : Int32) (M3 : SM) =>
    jn (fun (x1_4 : Int32) (x2_5 : Int32) (M6 : SM) =>
        jn (fun (x1_7 : Int32) (x2_8 : Int32) (M9 : SM) =>
            if x1_7 < (10 : Int32) then
              (some ((0 : Int32), M9)) else
              (ob (qtn_hasMaster (x1_7 - (10 : Int32)) M9) (fun r10 M11 =>
                if r10 = 0 then
                (some ((0 : Int32), M11)) else
                (ob (qfr_within x2_8 (0 : Int32) (200 : Int32) M11) (fun r13 M14 =>
                  if r13 = 0 then
                  (some ((0 : Int32), M14)) else
                  (ob (qtn_setOver (x1_7 - (10 : Int32)) x2_8 M14) (fun _ M16 =>
                    some ((1 : Int32), M16)))))))) (fun j22 =>
          if x1_4 = (2 : Int32) then
          (ob (qfr_within x2_5 (0 : Int32) (1000 : Int32) M6) (fun r23 M24 =>
            if r23 = 0 then
            (j22 x1_4 x2_5 M24) else
            (some ((1 : Int32), (wI M24 278 1 x2_5))))) else
          (j22 x1_4 x2_5 M6))) (fun j28 =>
      if x1_1 = (1 : Int32) then
      (ob (qfr_within x2_2 (0 : Int32) (100 : Int32) M3) (fun r29 M30 =>
        if r29 = 0 then
        (j28 x1_1 x2_2 M30) else
        (some ((1 : Int32), (wI M30 0 11 x2_2))))) else
      (j28 x1_1 x2_2 M3))) (fun j34 =>
  if x1 = 0 then
  (ob (qfr_within x2 (0 : Int32) (1000 : Int32) M) (fun r35 M36 =>
    if r35 = 0 then
    (j34 x1 x2 M36) else
    (some ((1 : Int32), (wI M36 0 10 x2))))) else
  (j34 x1 x2 M))
theorem mt_1115 : MT 1115 K_1115 LN_11 := ⟨rfl, rfl, by decide +kernel⟩
theorem okm_1115 : OKm 1115 := ⟨⟨vE_1115, okL_11, by decide +kernel⟩, by decide +kernel, by decide +kernel, by decide +kernel⟩
set_option maxRecDepth 20000 in
theorem qfr_number_ok (d : Nat) (hd : 3 ≤ d) {x1 : Int32} {x2 : Int32} {M : SM} {r : Int32} {Mz : SM} (hs : qfr_number x1 x2 M = some (r, Mz)) : Ex d 1115 [.ref 0, .int x1, .int x2] (gm M) (some (.int r), gm Mz) := by
  obtain ⟨d, rfl⟩ : ∃ d0, d = d0 + 1 := ⟨d - 1, by omega⟩
  refine Ex.of okm_1115 (by omega) (Nat.le_of_ble_eq_true rfl) ?_
  show Rc (d + 1) 1115 (0, [.ref 0, .int x1, .int x2], [], gm M) _
  unfold qfr_number at hs
  refine jn_e (P := fun (j : Int32 → Int32 → SM → Option (Int32 × SM)) => ∀ (x1_1 : Int32) (x2_2 : Int32) (M3 : SM) (r : Int32) (Mz : SM), j x1_1 x2_2 M3 = some (r, Mz) → Rc (d + 1) 1115 (22, [.ref 0, .int x1_1, .int x2_2], [], gm M3) (some (.int r), gm Mz)) hs ?_ (fun j34 Hj34 hs => ?_)
  · intro x1_1 x2_2 M3 r Mz hs
    try dsimp only at hs
    refine jn_e (P := fun (j : Int32 → Int32 → SM → Option (Int32 × SM)) => ∀ (x1_4 : Int32) (x2_5 : Int32) (M6 : SM) (r : Int32) (Mz : SM), j x1_4 x2_5 M6 = some (r, Mz) → Rc (d + 1) 1115 (44, [.ref 0, .int x1_4, .int x2_5], [], gm M6) (some (.int r), gm Mz)) hs ?_ (fun j28 Hj28 hs => ?_)
    · intro x1_4 x2_5 M6 r Mz hs
      try dsimp only at hs
      refine jn_e (P := fun (j : Int32 → Int32 → SM → Option (Int32 × SM)) => ∀ (x1_7 : Int32) (x2_8 : Int32) (M9 : SM) (r : Int32) (Mz : SM), j x1_7 x2_8 M9 = some (r, Mz) → Rc (d + 1) 1115 (70, [.ref 0, .int x1_7, .int x2_8], [], gm M9) (some (.int r), gm Mz)) hs ?_ (fun j22 Hj22 hs => ?_)
      · intro x1_7 x2_8 M9 r Mz hs
        try dsimp only at hs
        by_cases h21 : x1_7 < (10 : Int32)
        · rw [if_pos h21] at hs
          refine Rc.goL mt_1115 2 (f2 := (if x1_7 < (10 : Int32) then 101 else 76, [.ref 0, .int x1_7, .int x2_8], [], gm M9)) (b := true) rfl rfl ?_
          rw [if_pos h21]
          refine Rc.goL mt_1115 0 (f2 := (102, [.ref 0, .int x1_7, .int x2_8], [.int (0 : Int32)], gm M9)) (b := true) rfl rfl ?_
          obtain ⟨e1, e2⟩ := some_p hs; subst e1; subst e2
          exact Rc.ret (v := some (.int (0 : Int32))) rfl rfl
        · rw [if_neg h21] at hs
          refine Rc.goL mt_1115 2 (f2 := (if x1_7 < (10 : Int32) then 101 else 76, [.ref 0, .int x1_7, .int x2_8], [], gm M9)) (b := true) rfl rfl ?_
          rw [if_neg h21]
          refine Rc.goL mt_1115 4 (f2 := (84, [.ref 0, .int x1_7, .int x2_8], [.int (x1_7 - (10 : Int32)), .ref 179], gm M9)) (b := true) rfl rfl ?_
          obtain ⟨r10, M11, he12, hs⟩ := ob_some hs
          refine Rc.callV (i := 103) (mid' := 1002) (av := [.int (x1_7 - (10 : Int32))]) (rest := []) (v := some (.int r10)) (M1 := gm M11) (a := 179) rfl rfl rfl cw_1002 rfl (Nat.le_of_ble_eq_true rfl) rfl (Nat.le_of_ble_eq_true rfl) (qtn_hasMaster_ok _ (by omega) he12) ?_
          by_cases h20 : r10 = 0
          · rw [if_pos h20] at hs
            refine Rc.goL mt_1115 0 (f2 := (if r10 = 0 then 101 else 90, [.ref 0, .int x1_7, .int x2_8], [], gm M11)) (b := true) rfl rfl ?_
            rw [if_pos h20]
            refine Rc.goL mt_1115 0 (f2 := (102, [.ref 0, .int x1_7, .int x2_8], [.int (0 : Int32)], gm M11)) (b := true) rfl rfl ?_
            obtain ⟨e1, e2⟩ := some_p hs; subst e1; subst e2
            exact Rc.ret (v := some (.int (0 : Int32))) rfl rfl
          · rw [if_neg h20] at hs
            refine Rc.goL mt_1115 0 (f2 := (if r10 = 0 then 101 else 90, [.ref 0, .int x1_7, .int x2_8], [], gm M11)) (b := true) rfl rfl ?_
            rw [if_neg h20]
            refine Rc.goL mt_1115 2 (f2 := (95, [.ref 0, .int x1_7, .int x2_8], [.int (200 : Int32), .int (0 : Int32), .int x2_8], gm M11)) (b := true) rfl rfl ?_
            obtain ⟨r13, M14, he15, hs⟩ := ob_some hs
            refine Rc.callS (i := 96) (mid' := 1137) (av := [.int x2_8, .int (0 : Int32), .int (200 : Int32)]) (rest := []) (v := some (.int r13)) (M1 := gm M14) rfl (Or.inl rfl) rfl cw_1137 rfl (Nat.le_of_ble_eq_true rfl) (qfr_within_ok _ (by omega) he15) ?_
            by_cases h19 : r13 = 0
            · rw [if_pos h19] at hs
              refine Rc.goL mt_1115 0 (f2 := (if r13 = 0 then 101 else 103, [.ref 0, .int x1_7, .int x2_8], [], gm M14)) (b := true) rfl rfl ?_
              rw [if_pos h19]
              refine Rc.goL mt_1115 0 (f2 := (102, [.ref 0, .int x1_7, .int x2_8], [.int (0 : Int32)], gm M14)) (b := true) rfl rfl ?_
              obtain ⟨e1, e2⟩ := some_p hs; subst e1; subst e2
              exact Rc.ret (v := some (.int (0 : Int32))) rfl rfl
            · rw [if_neg h19] at hs
              refine Rc.goL mt_1115 0 (f2 := (if r13 = 0 then 101 else 103, [.ref 0, .int x1_7, .int x2_8], [], gm M14)) (b := true) rfl rfl ?_
              rw [if_neg h19]
              refine Rc.goL mt_1115 5 (f2 := (112, [.ref 0, .int x1_7, .int x2_8], [.int x2_8, .int (x1_7 - (10 : Int32)), .ref 179], gm M14)) (b := true) rfl rfl ?_
              obtain ⟨u18, M16, he17, hs⟩ := ob_some hs
              refine Rc.callV (i := 259) (mid' := 1021) (av := [.int (x1_7 - (10 : Int32)), .int x2_8]) (rest := []) (v := none) (M1 := gm M16) (a := 179) rfl rfl rfl cw_1021 rfl (Nat.le_of_ble_eq_true rfl) rfl (Nat.le_of_ble_eq_true rfl) (qtn_setOver_ok _ (by omega) he17) ?_
              refine Rc.goL mt_1115 0 (f2 := (116, [.ref 0, .int x1_7, .int x2_8], [.int (1 : Int32)], gm M16)) (b := true) rfl rfl ?_
              obtain ⟨e1, e2⟩ := some_p hs; subst e1; subst e2
              exact Rc.ret (v := some (.int (1 : Int32))) rfl rfl
      by_cases h27 : x1_4 = (2 : Int32)
      · rw [if_pos h27] at hs
        refine Rc.goL mt_1115 2 (f2 := (if x1_4 = (2 : Int32) then 49 else 70, [.ref 0, .int x1_4, .int x2_5], [], gm M6)) (b := true) rfl rfl ?_
        rw [if_pos h27]
        refine Rc.goL mt_1115 2 (f2 := (54, [.ref 0, .int x1_4, .int x2_5], [.int (1000 : Int32), .int (0 : Int32), .int x2_5], gm M6)) (b := true) rfl rfl ?_
        obtain ⟨r23, M24, he25, hs⟩ := ob_some hs
        refine Rc.callS (i := 96) (mid' := 1137) (av := [.int x2_5, .int (0 : Int32), .int (1000 : Int32)]) (rest := []) (v := some (.int r23)) (M1 := gm M24) rfl (Or.inl rfl) rfl cw_1137 rfl (Nat.le_of_ble_eq_true rfl) (qfr_within_ok _ (by omega) he25) ?_
        by_cases h26 : r23 = 0
        · rw [if_pos h26] at hs
          refine Rc.goL mt_1115 0 (f2 := (if r23 = 0 then 70 else 60, [.ref 0, .int x1_4, .int x2_5], [], gm M24)) (b := true) rfl rfl ?_
          rw [if_pos h26]
          refine Rc.less (ls2 := [.ref 0, .int x1_4, .int x2_5]) (by refine ⟨Or.inr rfl, Or.inr rfl, Or.inr rfl, trivial⟩) ?_
          exact Hj22 x1_4 x2_5 _ _ _ hs
        · rw [if_neg h26] at hs
          refine Rc.goL mt_1115 0 (f2 := (if r23 = 0 then 70 else 60, [.ref 0, .int x1_4, .int x2_5], [], gm M24)) (b := true) rfl rfl ?_
          rw [if_neg h26]
          refine Rc.goL mt_1115 3 (f2 := (68, [.ref 0, .int x1_4, .int x2_5], [], gm (wI M24 278 1 x2_5))) (b := true) rfl rfl ?_
          refine Rc.goL mt_1115 0 (f2 := (69, [.ref 0, .int x1_4, .int x2_5], [.int (1 : Int32)], gm (wI M24 278 1 x2_5))) (b := true) rfl rfl ?_
          obtain ⟨e1, e2⟩ := some_p hs; subst e1; subst e2
          exact Rc.ret (v := some (.int (1 : Int32))) rfl rfl
      · rw [if_neg h27] at hs
        refine Rc.goL mt_1115 2 (f2 := (if x1_4 = (2 : Int32) then 49 else 70, [.ref 0, .int x1_4, .int x2_5], [], gm M6)) (b := true) rfl rfl ?_
        rw [if_neg h27]
        refine Rc.less (ls2 := [.ref 0, .int x1_4, .int x2_5]) (by refine ⟨Or.inr rfl, Or.inr rfl, Or.inr rfl, trivial⟩) ?_
        exact Hj22 x1_4 x2_5 _ _ _ hs
    by_cases h33 : x1_1 = (1 : Int32)
    · rw [if_pos h33] at hs
      refine Rc.goL mt_1115 2 (f2 := (if x1_1 = (1 : Int32) then 27 else 44, [.ref 0, .int x1_1, .int x2_2], [], gm M3)) (b := true) rfl rfl ?_
      rw [if_pos h33]
      refine Rc.goL mt_1115 2 (f2 := (31, [.ref 0, .int x1_1, .int x2_2], [.int (100 : Int32), .int (0 : Int32), .int x2_2], gm M3)) (b := true) rfl rfl ?_
      obtain ⟨r29, M30, he31, hs⟩ := ob_some hs
      refine Rc.callS (i := 96) (mid' := 1137) (av := [.int x2_2, .int (0 : Int32), .int (100 : Int32)]) (rest := []) (v := some (.int r29)) (M1 := gm M30) rfl (Or.inl rfl) rfl cw_1137 rfl (Nat.le_of_ble_eq_true rfl) (qfr_within_ok _ (by omega) he31) ?_
      by_cases h32 : r29 = 0
      · rw [if_pos h32] at hs
        refine Rc.goL mt_1115 0 (f2 := (if r29 = 0 then 44 else 37, [.ref 0, .int x1_1, .int x2_2], [], gm M30)) (b := true) rfl rfl ?_
        rw [if_pos h32]
        refine Rc.less (ls2 := [.ref 0, .int x1_1, .int x2_2]) (by refine ⟨Or.inr rfl, Or.inr rfl, Or.inr rfl, trivial⟩) ?_
        exact Hj28 x1_1 x2_2 _ _ _ hs
      · rw [if_neg h32] at hs
        refine Rc.goL mt_1115 0 (f2 := (if r29 = 0 then 44 else 37, [.ref 0, .int x1_1, .int x2_2], [], gm M30)) (b := true) rfl rfl ?_
        rw [if_neg h32]
        refine Rc.goL mt_1115 2 (f2 := (42, [.ref 0, .int x1_1, .int x2_2], [], gm (wI M30 0 11 x2_2))) (b := true) rfl rfl ?_
        refine Rc.goL mt_1115 0 (f2 := (43, [.ref 0, .int x1_1, .int x2_2], [.int (1 : Int32)], gm (wI M30 0 11 x2_2))) (b := true) rfl rfl ?_
        obtain ⟨e1, e2⟩ := some_p hs; subst e1; subst e2
        exact Rc.ret (v := some (.int (1 : Int32))) rfl rfl
    · rw [if_neg h33] at hs
      refine Rc.goL mt_1115 2 (f2 := (if x1_1 = (1 : Int32) then 27 else 44, [.ref 0, .int x1_1, .int x2_2], [], gm M3)) (b := true) rfl rfl ?_
      rw [if_neg h33]
      refine Rc.less (ls2 := [.ref 0, .int x1_1, .int x2_2]) (by refine ⟨Or.inr rfl, Or.inr rfl, Or.inr rfl, trivial⟩) ?_
      exact Hj28 x1_1 x2_2 _ _ _ hs
  by_cases h39 : x1 = 0
  · rw [if_pos h39] at hs
    refine Rc.goL mt_1115 1 (f2 := (if x1 = 0 then 4 else 22, [.ref 0, .int x1, .int x2], [], gm M)) (b := true) rfl rfl ?_
    rw [if_pos h39]
    refine Rc.goL mt_1115 2 (f2 := (9, [.ref 0, .int x1, .int x2], [.int (1000 : Int32), .int (0 : Int32), .int x2], gm M)) (b := true) rfl rfl ?_
    obtain ⟨r35, M36, he37, hs⟩ := ob_some hs
    refine Rc.callS (i := 96) (mid' := 1137) (av := [.int x2, .int (0 : Int32), .int (1000 : Int32)]) (rest := []) (v := some (.int r35)) (M1 := gm M36) rfl (Or.inl rfl) rfl cw_1137 rfl (Nat.le_of_ble_eq_true rfl) (qfr_within_ok _ (by omega) he37) ?_
    by_cases h38 : r35 = 0
    · rw [if_pos h38] at hs
      refine Rc.goL mt_1115 0 (f2 := (if r35 = 0 then 22 else 15, [.ref 0, .int x1, .int x2], [], gm M36)) (b := true) rfl rfl ?_
      rw [if_pos h38]
      refine Rc.less (ls2 := [.ref 0, .int x1, .int x2]) (by refine ⟨Or.inr rfl, Or.inr rfl, Or.inr rfl, trivial⟩) ?_
      exact Hj34 x1 x2 _ _ _ hs
    · rw [if_neg h38] at hs
      refine Rc.goL mt_1115 0 (f2 := (if r35 = 0 then 22 else 15, [.ref 0, .int x1, .int x2], [], gm M36)) (b := true) rfl rfl ?_
      rw [if_neg h38]
      refine Rc.goL mt_1115 2 (f2 := (20, [.ref 0, .int x1, .int x2], [], gm (wI M36 0 10 x2))) (b := true) rfl rfl ?_
      refine Rc.goL mt_1115 0 (f2 := (21, [.ref 0, .int x1, .int x2], [.int (1 : Int32)], gm (wI M36 0 10 x2))) (b := true) rfl rfl ?_
      obtain ⟨e1, e2⟩ := some_p hs; subst e1; subst e2
      exact Rc.ret (v := some (.int (1 : Int32))) rfl rfl
  · rw [if_neg h39] at hs
    refine Rc.goL mt_1115 1 (f2 := (if x1 = 0 then 4 else 22, [.ref 0, .int x1, .int x2], [], gm M)) (b := true) rfl rfl ?_
    rw [if_neg h39]
    refine Rc.less (ls2 := [.ref 0, .int x1, .int x2]) (by refine ⟨Or.inr rfl, Or.inr rfl, Or.inr rfl, trivial⟩) ?_
    exact Hj34 x1 x2 _ _ _ hs
def qfr_amiss (x1 : Int32) (M : SM) : Option (Int32 × SM) :=
  ob (qen_has x1 M) (fun r1 M2 =>
  if r1 = 0 then
  (some ((-1 : Int32), M2)) else
  (ob (qen_at x1 (5 : Int32) M2) (fun r4 M5 =>
    ob (qen_at x1 (6 : Int32) M5) (fun r7 M8 =>
    lt (((r4 * (M8.1 0 11)) + (99 : Int32)) / (100 : Int32)) (fun (z10 : Int32) =>
    if r4 < r7 then
    (some ((1 : Int32), M8)) else
    (if z10 < (r4 - r7) then
      (some ((1 : Int32), M8)) else
      (some ((0 : Int32), M8))))))))
theorem mt_1116 : MT 1116 K_1116 LN_11 := ⟨rfl, rfl, by decide +kernel⟩
theorem okm_1116 : OKm 1116 := ⟨⟨vE_1116, okL_11, by decide +kernel⟩, by decide +kernel, by decide +kernel, by decide +kernel⟩
set_option maxRecDepth 20000 in
theorem qfr_amiss_ok (d : Nat) (hd : 3 ≤ d) {x1 : Int32} {M : SM} {r : Int32} {Mz : SM} (hs : qfr_amiss x1 M = some (r, Mz)) : Ex d 1116 [.ref 0, .int x1] (gm M) (some (.int r), gm Mz) := by
  obtain ⟨d, rfl⟩ : ∃ d0, d = d0 + 1 := ⟨d - 1, by omega⟩
  refine Ex.of okm_1116 (by omega) (Nat.le_of_ble_eq_true rfl) ?_
  show Rc (d + 1) 1116 (0, [.ref 0, .int x1, UU, UU, UU], [], gm M) _
  unfold qfr_amiss at hs
  refine Rc.goL mt_1116 2 (f2 := (5, [.ref 0, .int x1, UU, UU, UU], [.int x1, .ref 210], gm M)) (b := true) rfl rfl ?_
  obtain ⟨r1, M2, he3, hs⟩ := ob_some hs
  refine Rc.callV (i := 262) (mid' := 201) (av := [.int x1]) (rest := []) (v := some (.int r1)) (M1 := gm M2) (a := 210) rfl rfl rfl cw_201 rfl (Nat.le_of_ble_eq_true rfl) rfl (Nat.le_of_ble_eq_true rfl) (qen_has_ok _ (by omega) he3) ?_
  by_cases h13 : r1 = 0
  · rw [if_pos h13] at hs
    refine Rc.goL mt_1116 0 (f2 := (if r1 = 0 then 11 else 13, [.ref 0, .int x1, UU, UU, UU], [], gm M2)) (b := true) rfl rfl ?_
    rw [if_pos h13]
    refine Rc.goL mt_1116 0 (f2 := (12, [.ref 0, .int x1, UU, UU, UU], [.int (-1 : Int32)], gm M2)) (b := true) rfl rfl ?_
    obtain ⟨e1, e2⟩ := some_p hs; subst e1; subst e2
    exact Rc.ret (v := some (.int (-1 : Int32))) rfl rfl
  · rw [if_neg h13] at hs
    refine Rc.goL mt_1116 0 (f2 := (if r1 = 0 then 11 else 13, [.ref 0, .int x1, UU, UU, UU], [], gm M2)) (b := true) rfl rfl ?_
    rw [if_neg h13]
    refine Rc.goL mt_1116 3 (f2 := (19, [.ref 0, .int x1, UU, UU, UU], [.int (5 : Int32), .int x1, .ref 210], gm M2)) (b := true) rfl rfl ?_
    obtain ⟨r4, M5, he6, hs⟩ := ob_some hs
    refine Rc.callV (i := 265) (mid' := 205) (av := [.int x1, .int (5 : Int32)]) (rest := []) (v := some (.int r4)) (M1 := gm M5) (a := 210) rfl rfl rfl cw_205 rfl (Nat.le_of_ble_eq_true rfl) rfl (Nat.le_of_ble_eq_true rfl) (qen_at_ok _ (by omega) he6) ?_
    refine Rc.goL mt_1116 4 (f2 := (30, [.ref 0, .int x1, .int r4, UU, UU], [.int (6 : Int32), .int x1, .ref 210], gm M5)) (b := true) rfl rfl ?_
    obtain ⟨r7, M8, he9, hs⟩ := ob_some hs
    refine Rc.callV (i := 265) (mid' := 205) (av := [.int x1, .int (6 : Int32)]) (rest := []) (v := some (.int r7)) (M1 := gm M8) (a := 210) rfl rfl rfl cw_205 rfl (Nat.le_of_ble_eq_true rfl) rfl (Nat.le_of_ble_eq_true rfl) (qen_at_ok _ (by omega) he9) ?_
    refine Rc.goL mt_1116 6 (f2 := (43, [.ref 0, .int x1, .int r4, .int r7, UU], [.int ((r4 * (M8.1 0 11)) + (99 : Int32))], gm M8)) (b := true) rfl rfl ?_
    refine lt_g hs (fun z10 Hz10 hs => ?_)
    refine Rc.goL mt_1116 2 (f2 := (48, [.ref 0, .int x1, .int r4, .int r7, .int z10], [], gm M8)) (b := true) (by subst Hz10; rfl) rfl ?_
    by_cases h12 : r4 < r7
    · rw [if_pos h12] at hs
      refine Rc.goL mt_1116 2 (f2 := (if r4 < r7 then 61 else 53, [.ref 0, .int x1, .int r4, .int r7, .int z10], [], gm M8)) (b := true) rfl rfl ?_
      rw [if_pos h12]
      refine Rc.goL mt_1116 1 (f2 := (66, [.ref 0, .int x1, .int r4, .int r7, .int z10], [.int (1 : Int32)], gm M8)) (b := true) rfl rfl ?_
      obtain ⟨e1, e2⟩ := some_p hs; subst e1; subst e2
      exact Rc.ret (v := some (.int (1 : Int32))) rfl rfl
    · rw [if_neg h12] at hs
      refine Rc.goL mt_1116 2 (f2 := (if r4 < r7 then 61 else 53, [.ref 0, .int x1, .int r4, .int r7, .int z10], [], gm M8)) (b := true) rfl rfl ?_
      rw [if_neg h12]
      by_cases h11 : z10 < (r4 - r7)
      · rw [if_pos h11] at hs
        refine Rc.goL mt_1116 4 (f2 := (if z10 < (r4 - r7) then 61 else 65, [.ref 0, .int x1, .int r4, .int r7, .int z10], [], gm M8)) (b := true) rfl rfl ?_
        rw [if_pos h11]
        refine Rc.goL mt_1116 1 (f2 := (66, [.ref 0, .int x1, .int r4, .int r7, .int z10], [.int (1 : Int32)], gm M8)) (b := true) rfl rfl ?_
        obtain ⟨e1, e2⟩ := some_p hs; subst e1; subst e2
        exact Rc.ret (v := some (.int (1 : Int32))) rfl rfl
      · rw [if_neg h11] at hs
        refine Rc.goL mt_1116 4 (f2 := (if z10 < (r4 - r7) then 61 else 65, [.ref 0, .int x1, .int r4, .int r7, .int z10], [], gm M8)) (b := true) rfl rfl ?_
        rw [if_neg h11]
        refine Rc.goL mt_1116 0 (f2 := (66, [.ref 0, .int x1, .int r4, .int r7, .int z10], [.int (0 : Int32)], gm M8)) (b := true) rfl rfl ?_
        obtain ⟨e1, e2⟩ := some_p hs; subst e1; subst e2
        exact Rc.ret (v := some (.int (0 : Int32))) rfl rfl
def qfr_tells (x1 : Int32) (x2 : Int32) (x3 : Int32) (x4 : Int32) (M : SM) : Option (Int32 × SM) :=
  ob (qtn_isBagman x1 M) (fun r1 M2 =>
  if r1 = 0 then
  (some ((0 : Int32), M2)) else
  (ob (qfr_within x2 (0 : Int32) (M2.1 179 0) M2) (fun r4 M5 =>
    if r4 = 0 then
    (some ((0 : Int32), M5)) else
    (ob (qfr_within x3 (0 : Int32) (9 : Int32) M5) (fun r7 M8 =>
      if r7 = 0 then
      (some ((0 : Int32), M8)) else
      (ob (qfr_within x4 (0 : Int32) (10000 : Int32) M8) (fun r10 M11 =>
        if r10 = 0 then
        (some ((0 : Int32), M11)) else
        (ob (qbk_add x1 x2 x3 x4 M11) (fun r13 M14 =>
          ck (decide (r13 = 0) || decide (r13 = 1)) (some (r13, M14)))))))))))
theorem mt_1117 : MT 1117 K_1117 LN_11 := ⟨rfl, rfl, by decide +kernel⟩
theorem okm_1117 : OKm 1117 := ⟨⟨vE_1117, okL_11, by decide +kernel⟩, by decide +kernel, by decide +kernel, by decide +kernel⟩
set_option maxRecDepth 20000 in
theorem qfr_tells_ok (d : Nat) (hd : 3 ≤ d) {x1 : Int32} {x2 : Int32} {x3 : Int32} {x4 : Int32} {M : SM} {r : Int32} {Mz : SM} (hs : qfr_tells x1 x2 x3 x4 M = some (r, Mz)) : Ex d 1117 [.ref 0, .int x1, .int x2, .int x3, .int x4] (gm M) (some (.int r), gm Mz) := by
  obtain ⟨d, rfl⟩ : ∃ d0, d = d0 + 1 := ⟨d - 1, by omega⟩
  refine Ex.of okm_1117 (by omega) (Nat.le_of_ble_eq_true rfl) ?_
  show Rc (d + 1) 1117 (0, [.ref 0, .int x1, .int x2, .int x3, .int x4], [], gm M) _
  unfold qfr_tells at hs
  refine Rc.goL mt_1117 2 (f2 := (5, [.ref 0, .int x1, .int x2, .int x3, .int x4], [.int x1, .ref 179], gm M)) (b := true) rfl rfl ?_
  obtain ⟨r1, M2, he3, hs⟩ := ob_some hs
  refine Rc.callV (i := 268) (mid' := 1006) (av := [.int x1]) (rest := []) (v := some (.int r1)) (M1 := gm M2) (a := 179) rfl rfl rfl cw_1006 rfl (Nat.le_of_ble_eq_true rfl) rfl (Nat.le_of_ble_eq_true rfl) (qtn_isBagman_ok _ (by omega) he3) ?_
  by_cases h20 : r1 = 0
  · rw [if_pos h20] at hs
    refine Rc.goL mt_1117 0 (f2 := (if r1 = 0 then 26 else 11, [.ref 0, .int x1, .int x2, .int x3, .int x4], [], gm M2)) (b := true) rfl rfl ?_
    rw [if_pos h20]
    refine Rc.goL mt_1117 0 (f2 := (27, [.ref 0, .int x1, .int x2, .int x3, .int x4], [.int (0 : Int32)], gm M2)) (b := true) rfl rfl ?_
    obtain ⟨e1, e2⟩ := some_p hs; subst e1; subst e2
    exact Rc.ret (v := some (.int (0 : Int32))) rfl rfl
  · rw [if_neg h20] at hs
    refine Rc.goL mt_1117 0 (f2 := (if r1 = 0 then 26 else 11, [.ref 0, .int x1, .int x2, .int x3, .int x4], [], gm M2)) (b := true) rfl rfl ?_
    rw [if_neg h20]
    refine Rc.goL mt_1117 4 (f2 := (20, [.ref 0, .int x1, .int x2, .int x3, .int x4], [.int (M2.1 179 0), .int (0 : Int32), .int x2], gm M2)) (b := true) rfl rfl ?_
    obtain ⟨r4, M5, he6, hs⟩ := ob_some hs
    refine Rc.callS (i := 96) (mid' := 1137) (av := [.int x2, .int (0 : Int32), .int (M2.1 179 0)]) (rest := []) (v := some (.int r4)) (M1 := gm M5) rfl (Or.inl rfl) rfl cw_1137 rfl (Nat.le_of_ble_eq_true rfl) (qfr_within_ok _ (by omega) he6) ?_
    by_cases h19 : r4 = 0
    · rw [if_pos h19] at hs
      refine Rc.goL mt_1117 0 (f2 := (if r4 = 0 then 26 else 28, [.ref 0, .int x1, .int x2, .int x3, .int x4], [], gm M5)) (b := true) rfl rfl ?_
      rw [if_pos h19]
      refine Rc.goL mt_1117 0 (f2 := (27, [.ref 0, .int x1, .int x2, .int x3, .int x4], [.int (0 : Int32)], gm M5)) (b := true) rfl rfl ?_
      obtain ⟨e1, e2⟩ := some_p hs; subst e1; subst e2
      exact Rc.ret (v := some (.int (0 : Int32))) rfl rfl
    · rw [if_neg h19] at hs
      refine Rc.goL mt_1117 0 (f2 := (if r4 = 0 then 26 else 28, [.ref 0, .int x1, .int x2, .int x3, .int x4], [], gm M5)) (b := true) rfl rfl ?_
      rw [if_neg h19]
      refine Rc.goL mt_1117 2 (f2 := (32, [.ref 0, .int x1, .int x2, .int x3, .int x4], [.int (9 : Int32), .int (0 : Int32), .int x3], gm M5)) (b := true) rfl rfl ?_
      obtain ⟨r7, M8, he9, hs⟩ := ob_some hs
      refine Rc.callS (i := 96) (mid' := 1137) (av := [.int x3, .int (0 : Int32), .int (9 : Int32)]) (rest := []) (v := some (.int r7)) (M1 := gm M8) rfl (Or.inl rfl) rfl cw_1137 rfl (Nat.le_of_ble_eq_true rfl) (qfr_within_ok _ (by omega) he9) ?_
      by_cases h18 : r7 = 0
      · rw [if_pos h18] at hs
        refine Rc.goL mt_1117 0 (f2 := (if r7 = 0 then 50 else 38, [.ref 0, .int x1, .int x2, .int x3, .int x4], [], gm M8)) (b := true) rfl rfl ?_
        rw [if_pos h18]
        refine Rc.goL mt_1117 0 (f2 := (51, [.ref 0, .int x1, .int x2, .int x3, .int x4], [.int (0 : Int32)], gm M8)) (b := true) rfl rfl ?_
        obtain ⟨e1, e2⟩ := some_p hs; subst e1; subst e2
        exact Rc.ret (v := some (.int (0 : Int32))) rfl rfl
      · rw [if_neg h18] at hs
        refine Rc.goL mt_1117 0 (f2 := (if r7 = 0 then 50 else 38, [.ref 0, .int x1, .int x2, .int x3, .int x4], [], gm M8)) (b := true) rfl rfl ?_
        rw [if_neg h18]
        refine Rc.goL mt_1117 2 (f2 := (44, [.ref 0, .int x1, .int x2, .int x3, .int x4], [.int (10000 : Int32), .int (0 : Int32), .int x4], gm M8)) (b := true) rfl rfl ?_
        obtain ⟨r10, M11, he12, hs⟩ := ob_some hs
        refine Rc.callS (i := 96) (mid' := 1137) (av := [.int x4, .int (0 : Int32), .int (10000 : Int32)]) (rest := []) (v := some (.int r10)) (M1 := gm M11) rfl (Or.inl rfl) rfl cw_1137 rfl (Nat.le_of_ble_eq_true rfl) (qfr_within_ok _ (by omega) he12) ?_
        by_cases h17 : r10 = 0
        · rw [if_pos h17] at hs
          refine Rc.goL mt_1117 0 (f2 := (if r10 = 0 then 50 else 52, [.ref 0, .int x1, .int x2, .int x3, .int x4], [], gm M11)) (b := true) rfl rfl ?_
          rw [if_pos h17]
          refine Rc.goL mt_1117 0 (f2 := (51, [.ref 0, .int x1, .int x2, .int x3, .int x4], [.int (0 : Int32)], gm M11)) (b := true) rfl rfl ?_
          obtain ⟨e1, e2⟩ := some_p hs; subst e1; subst e2
          exact Rc.ret (v := some (.int (0 : Int32))) rfl rfl
        · rw [if_neg h17] at hs
          refine Rc.goL mt_1117 0 (f2 := (if r10 = 0 then 50 else 52, [.ref 0, .int x1, .int x2, .int x3, .int x4], [], gm M11)) (b := true) rfl rfl ?_
          rw [if_neg h17]
          refine Rc.goL mt_1117 5 (f2 := (61, [.ref 0, .int x1, .int x2, .int x3, .int x4], [.int x4, .int x3, .int x2, .int x1, .ref 238], gm M11)) (b := true) rfl rfl ?_
          obtain ⟨r13, M14, he15, hs⟩ := ob_some hs
          refine Rc.callV (i := 271) (mid' := 2) (av := [.int x1, .int x2, .int x3, .int x4]) (rest := []) (v := some (.int r13)) (M1 := gm M14) (a := 238) rfl rfl rfl cw_2 rfl (Nat.le_of_ble_eq_true rfl) rfl (Nat.le_of_ble_eq_true rfl) (qbk_add_ok _ (by omega) he15) ?_
          obtain ⟨hc16, hs⟩ := ck_some hs
          obtain ⟨e1, e2⟩ := some_p hs; subst e1; subst e2
          exact Rc.ret (v := some (.int r13)) rfl hc16
def qfr_chosen (x0 : Int32) (x1 : Int32) (x2 : Int32) (x3 : Int32) (x4 : Int32) (M : SM) : Option (Int32 × SM) :=
  if x0 = 0 then
  (some (x1, M)) else
  (if x0 = (1 : Int32) then
    (some (x2, M)) else
    (if x0 = (2 : Int32) then
      (some (x3, M)) else
      (some (x4, M))))
theorem mt_1139 : MT 1139 K_1139 LN_11 := ⟨rfl, rfl, by decide +kernel⟩
theorem okm_1139 : OKm 1139 := ⟨⟨vE_1139, okL_11, by decide +kernel⟩, by decide +kernel, by decide +kernel, by decide +kernel⟩
set_option maxRecDepth 20000 in
theorem qfr_chosen_ok (d : Nat) (hd : 1 ≤ d) {x0 : Int32} {x1 : Int32} {x2 : Int32} {x3 : Int32} {x4 : Int32} {M : SM} {r : Int32} {Mz : SM} (hs : qfr_chosen x0 x1 x2 x3 x4 M = some (r, Mz)) : Ex d 1139 [.int x0, .int x1, .int x2, .int x3, .int x4] (gm M) (some (.int r), gm Mz) := by
  obtain ⟨d, rfl⟩ : ∃ d0, d = d0 + 1 := ⟨d - 1, by omega⟩
  refine Ex.of okm_1139 (by omega) (Nat.le_of_ble_eq_true rfl) ?_
  show Rc (d + 1) 1139 (0, [.int x0, .int x1, .int x2, .int x3, .int x4], [], gm M) _
  unfold qfr_chosen at hs
  by_cases h3 : x0 = 0
  · rw [if_pos h3] at hs
    refine Rc.goL mt_1139 1 (f2 := (if x0 = 0 then 4 else 6, [.int x0, .int x1, .int x2, .int x3, .int x4], [], gm M)) (b := true) rfl rfl ?_
    rw [if_pos h3]
    refine Rc.goL mt_1139 0 (f2 := (5, [.int x0, .int x1, .int x2, .int x3, .int x4], [.int x1], gm M)) (b := true) rfl rfl ?_
    obtain ⟨e1, e2⟩ := some_p hs; subst e1; subst e2
    exact Rc.ret (v := some (.int x1)) rfl rfl
  · rw [if_neg h3] at hs
    refine Rc.goL mt_1139 1 (f2 := (if x0 = 0 then 4 else 6, [.int x0, .int x1, .int x2, .int x3, .int x4], [], gm M)) (b := true) rfl rfl ?_
    rw [if_neg h3]
    by_cases h2 : x0 = (1 : Int32)
    · rw [if_pos h2] at hs
      refine Rc.goL mt_1139 2 (f2 := (if x0 = (1 : Int32) then 11 else 13, [.int x0, .int x1, .int x2, .int x3, .int x4], [], gm M)) (b := true) rfl rfl ?_
      rw [if_pos h2]
      refine Rc.goL mt_1139 0 (f2 := (12, [.int x0, .int x1, .int x2, .int x3, .int x4], [.int x2], gm M)) (b := true) rfl rfl ?_
      obtain ⟨e1, e2⟩ := some_p hs; subst e1; subst e2
      exact Rc.ret (v := some (.int x2)) rfl rfl
    · rw [if_neg h2] at hs
      refine Rc.goL mt_1139 2 (f2 := (if x0 = (1 : Int32) then 11 else 13, [.int x0, .int x1, .int x2, .int x3, .int x4], [], gm M)) (b := true) rfl rfl ?_
      rw [if_neg h2]
      by_cases h1 : x0 = (2 : Int32)
      · rw [if_pos h1] at hs
        refine Rc.goL mt_1139 2 (f2 := (if x0 = (2 : Int32) then 18 else 22, [.int x0, .int x1, .int x2, .int x3, .int x4], [], gm M)) (b := true) rfl rfl ?_
        rw [if_pos h1]
        refine Rc.goL mt_1139 1 (f2 := (24, [.int x0, .int x1, .int x2, .int x3, .int x4], [.int x3], gm M)) (b := true) rfl rfl ?_
        obtain ⟨e1, e2⟩ := some_p hs; subst e1; subst e2
        exact Rc.ret (v := some (.int x3)) rfl rfl
      · rw [if_neg h1] at hs
        refine Rc.goL mt_1139 2 (f2 := (if x0 = (2 : Int32) then 18 else 22, [.int x0, .int x1, .int x2, .int x3, .int x4], [], gm M)) (b := true) rfl rfl ?_
        rw [if_neg h1]
        refine Rc.goL mt_1139 0 (f2 := (24, [.int x0, .int x1, .int x2, .int x3, .int x4], [.int x4], gm M)) (b := true) rfl rfl ?_
        obtain ⟨e1, e2⟩ := some_p hs; subst e1; subst e2
        exact Rc.ret (v := some (.int x4)) rfl rfl
