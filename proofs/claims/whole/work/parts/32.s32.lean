def qmd_shuts (M : SM) : Option (Int32 × SM) :=
  ob (qmd_closes (1 : Int32) M) (fun _ M1 =>
  ob (qmd_top M1) (fun r4 M5 =>
  ob (qmd_isCompared r4 M5) (fun r7 M8 =>
  if r7 = 0 then
  (ob (qmd_lands M8) (fun _ M10 =>
    ob (qmd_top M10) (fun r13 M14 =>
    if r13 = (15 : Int32) then
    (some ((1 : Int32), (wI (wI (wI M14 280 19 ((M14.1 280 19) - (1 : Int32))) 280 17 ((M14.1 280 17) - (1 : Int32))) 280 14 ((M14.1 280 14) + (1 : Int32))))) else
    (ob (qmd_wrong (1 : Int32) (M14.1 280 14) M14) (fun r16 M17 =>
      ck (decide (r16 = 0) || decide (r16 = 1)) (some (r16, M17))))))) else
  (ob (qmd_wrong (1 : Int32) (M8.1 280 14) M8) (fun r21 M22 =>
    ck (decide (r21 = 0) || decide (r21 = 1)) (some (r21, M22)))))))
theorem mt_1232 : MT 1232 K_1232 LN_12 := ⟨rfl, rfl, by decide +kernel⟩
theorem okm_1232 : OKm 1232 := ⟨⟨vE_1232, okL_12, by decide +kernel⟩, by decide +kernel, by decide +kernel, by decide +kernel⟩
set_option maxRecDepth 20000 in
theorem qmd_shuts_ok (d : Nat) (hd : 3 ≤ d) {M : SM} {r : Int32} {Mz : SM} (hs : qmd_shuts M = some (r, Mz)) : Ex d 1232 [.ref 280] (gm M) (some (.int r), gm Mz) := by
  obtain ⟨d, rfl⟩ : ∃ d0, d = d0 + 1 := ⟨d - 1, by omega⟩
  refine Ex.of okm_1232 (by omega) (Nat.le_of_ble_eq_true rfl) ?_
  show Rc (d + 1) 1232 (0, [.ref 280], [], gm M) _
  unfold qmd_shuts at hs
  refine Rc.goL mt_1232 1 (f2 := (2, [.ref 280], [.int (1 : Int32), .ref 280], gm M)) (b := true) rfl rfl ?_
  obtain ⟨u3, M1, he2, hs⟩ := ob_some hs
  refine Rc.callV (i := 276) (mid' := 1224) (av := [.int (1 : Int32)]) (rest := []) (v := none) (M1 := gm M1) (a := 280) rfl rfl rfl cw_1224 rfl (Nat.le_of_ble_eq_true rfl) rfl (Nat.le_of_ble_eq_true rfl) (qmd_closes_ok _ (by omega) he2) ?_
  refine Rc.goL mt_1232 0 (f2 := (6, [.ref 280], [.ref 280], gm M1)) (b := true) rfl rfl ?_
  obtain ⟨r4, M5, he6, hs⟩ := ob_some hs
  refine Rc.callV (i := 239) (mid' := 1219) (av := []) (rest := []) (v := some (.int r4)) (M1 := gm M5) (a := 280) rfl rfl rfl cw_1219 rfl (Nat.le_of_ble_eq_true rfl) rfl (Nat.le_of_ble_eq_true rfl) (qmd_top_ok _ (by omega) he6) ?_
  obtain ⟨r7, M8, he9, hs⟩ := ob_some hs
  refine Rc.callS (i := 279) (mid' := 1223) (av := [.int r4]) (rest := []) (v := some (.int r7)) (M1 := gm M8) rfl (Or.inl rfl) rfl cw_1223 rfl (Nat.le_of_ble_eq_true rfl) (qmd_isCompared_ok _ (by omega) he9) ?_
  by_cases h25 : r7 = 0
  · rw [if_pos h25] at hs
    refine Rc.goL mt_1232 0 (f2 := (if r7 = 0 then 25 else 15, [.ref 280], [], gm M8)) (b := true) rfl rfl ?_
    rw [if_pos h25]
    refine Rc.goL mt_1232 0 (f2 := (26, [.ref 280], [.ref 280], gm M8)) (b := true) rfl rfl ?_
    obtain ⟨u12, M10, he11, hs⟩ := ob_some hs
    refine Rc.callV (i := 282) (mid' := 1229) (av := []) (rest := []) (v := none) (M1 := gm M10) (a := 280) rfl rfl rfl cw_1229 rfl (Nat.le_of_ble_eq_true rfl) rfl (Nat.le_of_ble_eq_true rfl) (qmd_lands_ok _ (by omega) he11) ?_
    refine Rc.goL mt_1232 0 (f2 := (30, [.ref 280], [.ref 280], gm M10)) (b := true) rfl rfl ?_
    obtain ⟨r13, M14, he15, hs⟩ := ob_some hs
    refine Rc.callV (i := 239) (mid' := 1219) (av := []) (rest := []) (v := some (.int r13)) (M1 := gm M14) (a := 280) rfl rfl rfl cw_1219 rfl (Nat.le_of_ble_eq_true rfl) rfl (Nat.le_of_ble_eq_true rfl) (qmd_top_ok _ (by omega) he15) ?_
    by_cases h20 : r13 = (15 : Int32)
    · rw [if_pos h20] at hs
      refine Rc.goL mt_1232 1 (f2 := (if r13 = (15 : Int32) then 48 else 38, [.ref 280], [], gm M14)) (b := true) rfl rfl ?_
      rw [if_pos h20]
      refine Rc.goL mt_1232 5 (f2 := (58, [.ref 280], [], gm (wI M14 280 19 ((M14.1 280 19) - (1 : Int32))))) (b := true) rfl rfl ?_
      refine Rc.goL mt_1232 5 (f2 := (68, [.ref 280], [], gm (wI (wI M14 280 19 ((M14.1 280 19) - (1 : Int32))) 280 17 ((M14.1 280 17) - (1 : Int32))))) (b := true) rfl rfl ?_
      refine Rc.goL mt_1232 5 (f2 := (78, [.ref 280], [], gm (wI (wI (wI M14 280 19 ((M14.1 280 19) - (1 : Int32))) 280 17 ((M14.1 280 17) - (1 : Int32))) 280 14 ((M14.1 280 14) + (1 : Int32))))) (b := true) rfl rfl ?_
      refine Rc.goL mt_1232 0 (f2 := (79, [.ref 280], [.int (1 : Int32)], gm (wI (wI (wI M14 280 19 ((M14.1 280 19) - (1 : Int32))) 280 17 ((M14.1 280 17) - (1 : Int32))) 280 14 ((M14.1 280 14) + (1 : Int32))))) (b := true) rfl rfl ?_
      obtain ⟨e1, e2⟩ := some_p hs; subst e1; subst e2
      exact Rc.ret (v := some (.int (1 : Int32))) rfl rfl
    · rw [if_neg h20] at hs
      refine Rc.goL mt_1232 1 (f2 := (if r13 = (15 : Int32) then 48 else 38, [.ref 280], [], gm M14)) (b := true) rfl rfl ?_
      rw [if_neg h20]
      refine Rc.goL mt_1232 3 (f2 := (44, [.ref 280], [.int (M14.1 280 14), .int (1 : Int32), .ref 280], gm M14)) (b := true) rfl rfl ?_
      obtain ⟨r16, M17, he18, hs⟩ := ob_some hs
      refine Rc.callV (i := 259) (mid' := 1216) (av := [.int (1 : Int32), .int (M14.1 280 14)]) (rest := []) (v := some (.int r16)) (M1 := gm M17) (a := 280) rfl rfl rfl cw_1216 rfl (Nat.le_of_ble_eq_true rfl) rfl (Nat.le_of_ble_eq_true rfl) (qmd_wrong_ok _ (by omega) he18) ?_
      obtain ⟨hc19, hs⟩ := ck_some hs
      obtain ⟨e1, e2⟩ := some_p hs; subst e1; subst e2
      exact Rc.ret (v := some (.int r16)) rfl hc19
  · rw [if_neg h25] at hs
    refine Rc.goL mt_1232 0 (f2 := (if r7 = 0 then 25 else 15, [.ref 280], [], gm M8)) (b := true) rfl rfl ?_
    rw [if_neg h25]
    refine Rc.goL mt_1232 3 (f2 := (21, [.ref 280], [.int (M8.1 280 14), .int (1 : Int32), .ref 280], gm M8)) (b := true) rfl rfl ?_
    obtain ⟨r21, M22, he23, hs⟩ := ob_some hs
    refine Rc.callV (i := 259) (mid' := 1216) (av := [.int (1 : Int32), .int (M8.1 280 14)]) (rest := []) (v := some (.int r21)) (M1 := gm M22) (a := 280) rfl rfl rfl cw_1216 rfl (Nat.le_of_ble_eq_true rfl) rfl (Nat.le_of_ble_eq_true rfl) (qmd_wrong_ok _ (by omega) he23) ?_
    obtain ⟨hc24, hs⟩ := ck_some hs
    obtain ⟨e1, e2⟩ := some_p hs; subst e1; subst e2
    exact Rc.ret (v := some (.int r21)) rfl hc24
def qmd_readsFormula_L19 (k37 : SM → Option (Int32 × SM)) : Nat → SM → Option (Int32 × SM)
  | 0, _ => none
  | n + 1, M =>
    ob (qmd_sign M) (fun r4 M5 =>
    if r4 = (41 : Int32) then
    (ob (qmd_shuts M5) (fun r7 M8 =>
      if r7 = 0 then
      (some ((0 : Int32), M8)) else
      (qmd_readsFormula_L19 k37 n M8))) else
    (k37 M5))
def qmd_readsFormula_L10 (k115 : SM → Option (Int32 × SM)) (k174 : SM → Option (Int32 × SM)) : Nat → SM → Option (Int32 × SM)
  | 0, _ => none
  | n + 1, M =>
    ob (qmd_readsFactor M) (fun r1 M2 =>
    if r1 = 0 then
    (some ((0 : Int32), M2)) else
    (qmd_readsFormula_L19 (fun M12 =>
      ob (qmd_sign M12) (fun r13 M14 =>
        jn (fun (x1_16 : Int32) (t17 : Int32) (M18 : SM) =>
          jn (fun (x1_19 : Int32) (x2_20 : Int32) (M21 : SM) =>
              if x2_20 = (-1 : Int32) then
                (if x1_19 = (63 : Int32) then
                  (ob (qmd_asks M21) (fun r22 M23 =>
                    if r22 = 0 then
                    (some ((0 : Int32), M23)) else
                    (qmd_readsFormula_L10 k115 k174 n M23))) else
                  (if x1_19 = (58 : Int32) then
                    (ob (qmd_turns M21) (fun r26 M27 =>
                      if r26 = 0 then
                      (some ((0 : Int32), M27)) else
                      (qmd_readsFormula_L10 k115 k174 n M27))) else
                    (k174 M21))) else
                (ob (qmd_closes (1 : Int32) M21) (fun _ M32 =>
                  ob (qmd_top M32) (fun r35 M36 =>
                  ob (qmd_isCompared r35 M36) (fun r38 M39 =>
                  if r38 = 0 then
                  (ob (qmd_holds x2_20 (0 : Int32) M39) (fun _ M41 =>
                    qmd_readsFormula_L10 k115 k174 n (wI M41 280 14 ((M41.1 280 14) + (1 : Int32))))) else
                  (k115 M39)))))) (fun j46 =>
            if t17 = (-1 : Int32) then
            (j46 x1_16 t17 M18) else
            (ob (qmd_isSum t17 M18) (fun r47 M48 =>
              if r47 = 0 then
              (j46 x1_16 t17 M48) else
              (ob (qmd_binds t17 M48) (fun r50 M51 =>
                ob (qmd_closes r50 M51) (fun _ M53 =>
                ob (qmd_holds t17 (0 : Int32) M53) (fun _ M56 =>
                qmd_readsFormula_L10 k115 k174 n (wI M56 280 14 ((M56.1 280 14) + (1 : Int32))))))))))) (fun j61 =>
        if r13 = (-1 : Int32) then
        (j61 r13 (-1 : Int32) M14) else
        (ob (qmd_opOf r13 M14) (fun r62 M63 =>
          j61 r13 r62 M63))))) FU M2))
def qmd_readsFormula (M : SM) : Option (Int32 × SM) :=
  qmd_readsFormula_L10 (fun M67 =>
  ob (qmd_wrong (1 : Int32) (M67.1 280 14) M67) (fun r68 M69 =>
    ck (decide (r68 = 0) || decide (r68 = 1)) (some (r68, M69)))) (fun M72 =>
  ob (qmd_closes (1 : Int32) M72) (fun _ M73 =>
    ob (qmd_top M73) (fun r76 M77 =>
    ob (qmd_isCompared r76 M77) (fun r79 M80 =>
    if r79 = 0 then
    (ob (qmd_lands M80) (fun _ M82 =>
      if (M82.1 280 19) = 0 then
      (some ((1 : Int32), M82)) else
      (ob (qmd_wrong (1 : Int32) (M82.1 280 14) M82) (fun r85 M86 =>
        if r85 = 0 then
        (some ((0 : Int32), M86)) else
        (some ((1 : Int32), M86)))))) else
    (ob (qmd_wrong (1 : Int32) (M80.1 280 14) M80) (fun r90 M91 =>
      ck (decide (r90 = 0) || decide (r90 = 1)) (some (r90, M91)))))))) FU (wI (wI M 280 17 (0 : Int32)) 280 19 (0 : Int32))
theorem mt_1233 : MT 1233 K_1233 LN_12 := ⟨rfl, rfl, by decide +kernel⟩
theorem okm_1233 : OKm 1233 := ⟨⟨vE_1233, okL_12, by decide +kernel⟩, by decide +kernel, by decide +kernel, by decide +kernel⟩
set_option maxRecDepth 20000 in
theorem qmd_readsFormula_L19_ok (d : Nat) (hd : 4 ≤ d + 1) (k37 : SM → Option (Int32 × SM)) (hk37 : ∀ (M : SM) (r : Int32) (Mz : SM), k37 M = some (r, Mz) → Rc (d + 1) 1233 (37, [.ref 280, UU, UU], [], gm M) (some (.int r), gm Mz)) : ∀ (n : Nat) (M : SM) (r : Int32) (Mz : SM), qmd_readsFormula_L19 k37 n M = some (r, Mz) → Rc (d + 1) 1233 (19, [.ref 280, UU, UU], [], gm M) (some (.int r), gm Mz) := by
  intro n
  induction n with
  | zero => intro  M r Mz hs; cases hs
  | succ n ih =>
    intro  M r Mz hs
    rw [qmd_readsFormula_L19] at hs
    refine Rc.goL mt_1233 0 (f2 := (20, [.ref 280, UU, UU], [.ref 280], gm M)) (b := true) rfl rfl ?_
    obtain ⟨r4, M5, he6, hs⟩ := ob_some hs
    refine Rc.callV (i := 253) (mid' := 1215) (av := []) (rest := []) (v := some (.int r4)) (M1 := gm M5) (a := 280) rfl rfl rfl cw_1215 rfl (Nat.le_of_ble_eq_true rfl) rfl (Nat.le_of_ble_eq_true rfl) (qmd_sign_ok _ (by omega) he6) ?_
    by_cases h11 : r4 = (41 : Int32)
    · rw [if_pos h11] at hs
      refine Rc.goL mt_1233 1 (f2 := (if r4 = (41 : Int32) then 28 else 37, [.ref 280, UU, UU], [], gm M5)) (b := true) rfl rfl ?_
      rw [if_pos h11]
      refine Rc.goL mt_1233 0 (f2 := (29, [.ref 280, UU, UU], [.ref 280], gm M5)) (b := true) rfl rfl ?_
      obtain ⟨r7, M8, he9, hs⟩ := ob_some hs
      refine Rc.callV (i := 290) (mid' := 1232) (av := []) (rest := []) (v := some (.int r7)) (M1 := gm M8) (a := 280) rfl rfl rfl cw_1232 rfl (Nat.le_of_ble_eq_true rfl) rfl (Nat.le_of_ble_eq_true rfl) (qmd_shuts_ok _ (by omega) he9) ?_
      by_cases h10 : r7 = 0
      · rw [if_pos h10] at hs
        refine Rc.goL mt_1233 0 (f2 := (if r7 = 0 then 35 else 19, [.ref 280, UU, UU], [], gm M8)) (b := true) rfl rfl ?_
        rw [if_pos h10]
        refine Rc.goL mt_1233 0 (f2 := (36, [.ref 280, UU, UU], [.int (0 : Int32)], gm M8)) (b := true) rfl rfl ?_
        obtain ⟨e1, e2⟩ := some_p hs; subst e1; subst e2
        exact Rc.ret (v := some (.int (0 : Int32))) rfl rfl
      · rw [if_neg h10] at hs
        refine Rc.goL mt_1233 0 (f2 := (if r7 = 0 then 35 else 19, [.ref 280, UU, UU], [], gm M8)) (b := true) rfl rfl ?_
        rw [if_neg h10]
        refine Rc.less (ls2 := [.ref 280, UU, UU]) (by refine ⟨Or.inr rfl, Or.inl rfl, Or.inl rfl, trivial⟩) ?_
        exact ih _ _ _ hs
    · rw [if_neg h11] at hs
      refine Rc.goL mt_1233 1 (f2 := (if r4 = (41 : Int32) then 28 else 37, [.ref 280, UU, UU], [], gm M5)) (b := true) rfl rfl ?_
      rw [if_neg h11]
      refine Rc.less (ls2 := [.ref 280, UU, UU]) (by refine ⟨Or.inr rfl, Or.inl rfl, Or.inl rfl, trivial⟩) ?_
      exact hk37 _ _ _ hs
set_option maxRecDepth 20000 in
theorem qmd_readsFormula_L10_ok (d : Nat) (hd : 4 ≤ d + 1) (k115 : SM → Option (Int32 × SM)) (k174 : SM → Option (Int32 × SM)) (hk115 : ∀ (M : SM) (r : Int32) (Mz : SM), k115 M = some (r, Mz) → Rc (d + 1) 1233 (115, [.ref 280, UU, UU], [], gm M) (some (.int r), gm Mz)) (hk174 : ∀ (M : SM) (r : Int32) (Mz : SM), k174 M = some (r, Mz) → Rc (d + 1) 1233 (174, [.ref 280, UU, UU], [], gm M) (some (.int r), gm Mz)) : ∀ (n : Nat) (M : SM) (r : Int32) (Mz : SM), qmd_readsFormula_L10 k115 k174 n M = some (r, Mz) → Rc (d + 1) 1233 (10, [.ref 280, UU, UU], [], gm M) (some (.int r), gm Mz) := by
  intro n
  induction n with
  | zero => intro  M r Mz hs; cases hs
  | succ n ih =>
    intro  M r Mz hs
    rw [qmd_readsFormula_L10] at hs
    refine Rc.goL mt_1233 0 (f2 := (11, [.ref 280, UU, UU], [.ref 280], gm M)) (b := true) rfl rfl ?_
    obtain ⟨r1, M2, he3, hs⟩ := ob_some hs
    refine Rc.callV (i := 286) (mid' := 1228) (av := []) (rest := []) (v := some (.int r1)) (M1 := gm M2) (a := 280) rfl rfl rfl cw_1228 rfl (Nat.le_of_ble_eq_true rfl) rfl (Nat.le_of_ble_eq_true rfl) (qmd_readsFactor_ok _ (by omega) he3) ?_
    by_cases h66 : r1 = 0
    · rw [if_pos h66] at hs
      refine Rc.goL mt_1233 0 (f2 := (if r1 = 0 then 17 else 19, [.ref 280, UU, UU], [], gm M2)) (b := true) rfl rfl ?_
      rw [if_pos h66]
      refine Rc.goL mt_1233 0 (f2 := (18, [.ref 280, UU, UU], [.int (0 : Int32)], gm M2)) (b := true) rfl rfl ?_
      obtain ⟨e1, e2⟩ := some_p hs; subst e1; subst e2
      exact Rc.ret (v := some (.int (0 : Int32))) rfl rfl
    · rw [if_neg h66] at hs
      refine Rc.goL mt_1233 0 (f2 := (if r1 = 0 then 17 else 19, [.ref 280, UU, UU], [], gm M2)) (b := true) rfl rfl ?_
      rw [if_neg h66]
      refine Rc.less (ls2 := [.ref 280, UU, UU]) (by refine ⟨Or.inr rfl, Or.inl rfl, Or.inl rfl, trivial⟩) ?_
      refine qmd_readsFormula_L19_ok d hd _ (fun M12 r Mz hs => ?_) _ _ _ _ hs
      · refine Rc.goL mt_1233 0 (f2 := (38, [.ref 280, UU, UU], [.ref 280], gm M12)) (b := true) rfl rfl ?_
        obtain ⟨r13, M14, he15, hs⟩ := ob_some hs
        refine Rc.callV (i := 253) (mid' := 1215) (av := []) (rest := []) (v := some (.int r13)) (M1 := gm M14) (a := 280) rfl rfl rfl cw_1215 rfl (Nat.le_of_ble_eq_true rfl) rfl (Nat.le_of_ble_eq_true rfl) (qmd_sign_ok _ (by omega) he15) ?_
        refine jn_e (P := fun (j : Int32 → Int32 → SM → Option (Int32 × SM)) => ∀ (x1_16 : Int32) (t17 : Int32) (M18 : SM) (r : Int32) (Mz : SM), j x1_16 t17 M18 = some (r, Mz) → Rc (d + 1) 1233 (55, [.ref 280, .int x1_16, UU], [.int t17], gm M18) (some (.int r), gm Mz)) hs ?_ (fun j61 Hj61 hs => ?_)
        · intro x1_16 t17 M18 r Mz hs
          try dsimp only at hs
          refine jn_e (P := fun (j : Int32 → Int32 → SM → Option (Int32 × SM)) => ∀ (x1_19 : Int32) (x2_20 : Int32) (M21 : SM) (r : Int32) (Mz : SM), j x1_19 x2_20 M21 = some (r, Mz) → Rc (d + 1) 1233 (95, [.ref 280, .int x1_19, .int x2_20], [], gm M21) (some (.int r), gm Mz)) hs ?_ (fun j46 Hj46 hs => ?_)
          · intro x1_19 x2_20 M21 r Mz hs
            try dsimp only at hs
            by_cases h45 : x2_20 = (-1 : Int32)
            · rw [if_pos h45] at hs
              refine Rc.goL mt_1233 2 (f2 := (if x2_20 = (-1 : Int32) then 144 else 100, [.ref 280, .int x1_19, .int x2_20], [], gm M21)) (b := true) rfl rfl ?_
              rw [if_pos h45]
              by_cases h31 : x1_19 = (63 : Int32)
              · rw [if_pos h31] at hs
                refine Rc.goL mt_1233 2 (f2 := (if x1_19 = (63 : Int32) then 150 else 159, [.ref 280, .int x1_19, .int x2_20], [], gm M21)) (b := true) rfl rfl ?_
                rw [if_pos h31]
                refine Rc.goL mt_1233 0 (f2 := (151, [.ref 280, .int x1_19, .int x2_20], [.ref 280], gm M21)) (b := true) rfl rfl ?_
                obtain ⟨r22, M23, he24, hs⟩ := ob_some hs
                refine Rc.callV (i := 296) (mid' := 1230) (av := []) (rest := []) (v := some (.int r22)) (M1 := gm M23) (a := 280) rfl rfl rfl cw_1230 rfl (Nat.le_of_ble_eq_true rfl) rfl (Nat.le_of_ble_eq_true rfl) (qmd_asks_ok _ (by omega) he24) ?_
                by_cases h25 : r22 = 0
                · rw [if_pos h25] at hs
                  refine Rc.goL mt_1233 0 (f2 := (if r22 = 0 then 157 else 228, [.ref 280, .int x1_19, .int x2_20], [], gm M23)) (b := true) rfl rfl ?_
                  rw [if_pos h25]
                  refine Rc.goL mt_1233 0 (f2 := (158, [.ref 280, .int x1_19, .int x2_20], [.int (0 : Int32)], gm M23)) (b := true) rfl rfl ?_
                  obtain ⟨e1, e2⟩ := some_p hs; subst e1; subst e2
                  exact Rc.ret (v := some (.int (0 : Int32))) rfl rfl
                · rw [if_neg h25] at hs
                  refine Rc.goL mt_1233 0 (f2 := (if r22 = 0 then 157 else 228, [.ref 280, .int x1_19, .int x2_20], [], gm M23)) (b := true) rfl rfl ?_
                  rw [if_neg h25]
                  refine Rc.goL mt_1233 0 (f2 := (10, [.ref 280, .int x1_19, .int x2_20], [], gm M23)) (b := true) rfl rfl ?_
                  refine Rc.less (ls2 := [.ref 280, UU, UU]) (by refine ⟨Or.inr rfl, Or.inl rfl, Or.inl rfl, trivial⟩) ?_
                  exact ih _ _ _ hs
              · rw [if_neg h31] at hs
                refine Rc.goL mt_1233 2 (f2 := (if x1_19 = (63 : Int32) then 150 else 159, [.ref 280, .int x1_19, .int x2_20], [], gm M21)) (b := true) rfl rfl ?_
                rw [if_neg h31]
                by_cases h30 : x1_19 = (58 : Int32)
                · rw [if_pos h30] at hs
                  refine Rc.goL mt_1233 2 (f2 := (if x1_19 = (58 : Int32) then 165 else 174, [.ref 280, .int x1_19, .int x2_20], [], gm M21)) (b := true) rfl rfl ?_
                  rw [if_pos h30]
                  refine Rc.goL mt_1233 0 (f2 := (166, [.ref 280, .int x1_19, .int x2_20], [.ref 280], gm M21)) (b := true) rfl rfl ?_
                  obtain ⟨r26, M27, he28, hs⟩ := ob_some hs
                  refine Rc.callV (i := 299) (mid' := 1231) (av := []) (rest := []) (v := some (.int r26)) (M1 := gm M27) (a := 280) rfl rfl rfl cw_1231 rfl (Nat.le_of_ble_eq_true rfl) rfl (Nat.le_of_ble_eq_true rfl) (qmd_turns_ok _ (by omega) he28) ?_
                  by_cases h29 : r26 = 0
                  · rw [if_pos h29] at hs
                    refine Rc.goL mt_1233 0 (f2 := (if r26 = 0 then 172 else 228, [.ref 280, .int x1_19, .int x2_20], [], gm M27)) (b := true) rfl rfl ?_
                    rw [if_pos h29]
                    refine Rc.goL mt_1233 0 (f2 := (173, [.ref 280, .int x1_19, .int x2_20], [.int (0 : Int32)], gm M27)) (b := true) rfl rfl ?_
                    obtain ⟨e1, e2⟩ := some_p hs; subst e1; subst e2
                    exact Rc.ret (v := some (.int (0 : Int32))) rfl rfl
                  · rw [if_neg h29] at hs
                    refine Rc.goL mt_1233 0 (f2 := (if r26 = 0 then 172 else 228, [.ref 280, .int x1_19, .int x2_20], [], gm M27)) (b := true) rfl rfl ?_
                    rw [if_neg h29]
                    refine Rc.goL mt_1233 0 (f2 := (10, [.ref 280, .int x1_19, .int x2_20], [], gm M27)) (b := true) rfl rfl ?_
                    refine Rc.less (ls2 := [.ref 280, UU, UU]) (by refine ⟨Or.inr rfl, Or.inl rfl, Or.inl rfl, trivial⟩) ?_
                    exact ih _ _ _ hs
                · rw [if_neg h30] at hs
                  refine Rc.goL mt_1233 2 (f2 := (if x1_19 = (58 : Int32) then 165 else 174, [.ref 280, .int x1_19, .int x2_20], [], gm M21)) (b := true) rfl rfl ?_
                  rw [if_neg h30]
                  refine Rc.less (ls2 := [.ref 280, UU, UU]) (by refine ⟨Or.inr rfl, Or.inl rfl, Or.inl rfl, trivial⟩) ?_
                  exact hk174 _ _ _ hs
            · rw [if_neg h45] at hs
              refine Rc.goL mt_1233 2 (f2 := (if x2_20 = (-1 : Int32) then 144 else 100, [.ref 280, .int x1_19, .int x2_20], [], gm M21)) (b := true) rfl rfl ?_
              rw [if_neg h45]
              refine Rc.goL mt_1233 1 (f2 := (102, [.ref 280, .int x1_19, .int x2_20], [.int (1 : Int32), .ref 280], gm M21)) (b := true) rfl rfl ?_
              obtain ⟨u34, M32, he33, hs⟩ := ob_some hs
              refine Rc.callV (i := 276) (mid' := 1224) (av := [.int (1 : Int32)]) (rest := []) (v := none) (M1 := gm M32) (a := 280) rfl rfl rfl cw_1224 rfl (Nat.le_of_ble_eq_true rfl) rfl (Nat.le_of_ble_eq_true rfl) (qmd_closes_ok _ (by omega) he33) ?_
              refine Rc.goL mt_1233 0 (f2 := (106, [.ref 280, .int x1_19, .int x2_20], [.ref 280], gm M32)) (b := true) rfl rfl ?_
              obtain ⟨r35, M36, he37, hs⟩ := ob_some hs
              refine Rc.callV (i := 239) (mid' := 1219) (av := []) (rest := []) (v := some (.int r35)) (M1 := gm M36) (a := 280) rfl rfl rfl cw_1219 rfl (Nat.le_of_ble_eq_true rfl) rfl (Nat.le_of_ble_eq_true rfl) (qmd_top_ok _ (by omega) he37) ?_
              obtain ⟨r38, M39, he40, hs⟩ := ob_some hs
              refine Rc.callS (i := 279) (mid' := 1223) (av := [.int r35]) (rest := []) (v := some (.int r38)) (M1 := gm M39) rfl (Or.inl rfl) rfl cw_1223 rfl (Nat.le_of_ble_eq_true rfl) (qmd_isCompared_ok _ (by omega) he40) ?_
              by_cases h44 : r38 = 0
              · rw [if_pos h44] at hs
                refine Rc.goL mt_1233 0 (f2 := (if r38 = 0 then 125 else 115, [.ref 280, .int x1_19, .int x2_20], [], gm M39)) (b := true) rfl rfl ?_
                rw [if_pos h44]
                refine Rc.goL mt_1233 2 (f2 := (128, [.ref 280, .int x1_19, .int x2_20], [.int (0 : Int32), .int x2_20, .ref 280], gm M39)) (b := true) rfl rfl ?_
                obtain ⟨u43, M41, he42, hs⟩ := ob_some hs
                refine Rc.callV (i := 263) (mid' := 1218) (av := [.int x2_20, .int (0 : Int32)]) (rest := []) (v := none) (M1 := gm M41) (a := 280) rfl rfl rfl cw_1218 rfl (Nat.le_of_ble_eq_true rfl) rfl (Nat.le_of_ble_eq_true rfl) (qmd_holds_ok _ (by omega) he42) ?_
                refine Rc.goL mt_1233 5 (f2 := (141, [.ref 280, .int x1_19, .int x2_20], [], gm (wI M41 280 14 ((M41.1 280 14) + (1 : Int32))))) (b := true) rfl rfl ?_
                refine Rc.goL mt_1233 0 (f2 := (228, [.ref 280, .int x1_19, .int x2_20], [], gm (wI M41 280 14 ((M41.1 280 14) + (1 : Int32))))) (b := true) rfl rfl ?_
                refine Rc.goL mt_1233 0 (f2 := (10, [.ref 280, .int x1_19, .int x2_20], [], gm (wI M41 280 14 ((M41.1 280 14) + (1 : Int32))))) (b := true) rfl rfl ?_
                refine Rc.less (ls2 := [.ref 280, UU, UU]) (by refine ⟨Or.inr rfl, Or.inl rfl, Or.inl rfl, trivial⟩) ?_
                exact ih _ _ _ hs
              · rw [if_neg h44] at hs
                refine Rc.goL mt_1233 0 (f2 := (if r38 = 0 then 125 else 115, [.ref 280, .int x1_19, .int x2_20], [], gm M39)) (b := true) rfl rfl ?_
                rw [if_neg h44]
                refine Rc.less (ls2 := [.ref 280, UU, UU]) (by refine ⟨Or.inr rfl, Or.inl rfl, Or.inl rfl, trivial⟩) ?_
                exact hk115 _ _ _ hs
          by_cases h60 : t17 = (-1 : Int32)
          · rw [if_pos h60] at hs
            refine Rc.goL mt_1233 3 (f2 := (if t17 = (-1 : Int32) then 95 else 61, [.ref 280, .int x1_16, .int t17], [], gm M18)) (b := true) rfl rfl ?_
            rw [if_pos h60]
            refine Rc.less (ls2 := [.ref 280, .int x1_16, .int t17]) (by refine ⟨Or.inr rfl, Or.inr rfl, Or.inr rfl, trivial⟩) ?_
            exact Hj46 x1_16 t17 _ _ _ hs
          · rw [if_neg h60] at hs
            refine Rc.goL mt_1233 3 (f2 := (if t17 = (-1 : Int32) then 95 else 61, [.ref 280, .int x1_16, .int t17], [], gm M18)) (b := true) rfl rfl ?_
            rw [if_neg h60]
            refine Rc.goL mt_1233 0 (f2 := (62, [.ref 280, .int x1_16, .int t17], [.int t17], gm M18)) (b := true) rfl rfl ?_
            obtain ⟨r47, M48, he49, hs⟩ := ob_some hs
            refine Rc.callS (i := 243) (mid' := 1222) (av := [.int t17]) (rest := []) (v := some (.int r47)) (M1 := gm M48) rfl (Or.inl rfl) rfl cw_1222 rfl (Nat.le_of_ble_eq_true rfl) (qmd_isSum_ok _ (by omega) he49) ?_
            by_cases h59 : r47 = 0
            · rw [if_pos h59] at hs
              refine Rc.goL mt_1233 0 (f2 := (if r47 = 0 then 95 else 68, [.ref 280, .int x1_16, .int t17], [], gm M48)) (b := true) rfl rfl ?_
              rw [if_pos h59]
              refine Rc.less (ls2 := [.ref 280, .int x1_16, .int t17]) (by refine ⟨Or.inr rfl, Or.inr rfl, Or.inr rfl, trivial⟩) ?_
              exact Hj46 x1_16 t17 _ _ _ hs
            · rw [if_neg h59] at hs
              refine Rc.goL mt_1233 0 (f2 := (if r47 = 0 then 95 else 68, [.ref 280, .int x1_16, .int t17], [], gm M48)) (b := true) rfl rfl ?_
              rw [if_neg h59]
              refine Rc.goL mt_1233 1 (f2 := (70, [.ref 280, .int x1_16, .int t17], [.int t17, .ref 280], gm M48)) (b := true) rfl rfl ?_
              obtain ⟨r50, M51, he52, hs⟩ := ob_some hs
              refine Rc.callS (i := 246) (mid' := 1221) (av := [.int t17]) (rest := [.ref 280]) (v := some (.int r50)) (M1 := gm M51) rfl (Or.inl rfl) rfl cw_1221 rfl (Nat.le_of_ble_eq_true rfl) (qmd_binds_ok _ (by omega) he52) ?_
              obtain ⟨u55, M53, he54, hs⟩ := ob_some hs
              refine Rc.callV (i := 276) (mid' := 1224) (av := [.int r50]) (rest := []) (v := none) (M1 := gm M53) (a := 280) rfl rfl rfl cw_1224 rfl (Nat.le_of_ble_eq_true rfl) rfl (Nat.le_of_ble_eq_true rfl) (qmd_closes_ok _ (by omega) he54) ?_
              refine Rc.goL mt_1233 2 (f2 := (79, [.ref 280, .int x1_16, .int t17], [.int (0 : Int32), .int t17, .ref 280], gm M53)) (b := true) rfl rfl ?_
              obtain ⟨u58, M56, he57, hs⟩ := ob_some hs
              refine Rc.callV (i := 263) (mid' := 1218) (av := [.int t17, .int (0 : Int32)]) (rest := []) (v := none) (M1 := gm M56) (a := 280) rfl rfl rfl cw_1218 rfl (Nat.le_of_ble_eq_true rfl) rfl (Nat.le_of_ble_eq_true rfl) (qmd_holds_ok _ (by omega) he57) ?_
              refine Rc.goL mt_1233 5 (f2 := (92, [.ref 280, .int x1_16, .int t17], [], gm (wI M56 280 14 ((M56.1 280 14) + (1 : Int32))))) (b := true) rfl rfl ?_
              refine Rc.goL mt_1233 0 (f2 := (228, [.ref 280, .int x1_16, .int t17], [], gm (wI M56 280 14 ((M56.1 280 14) + (1 : Int32))))) (b := true) rfl rfl ?_
              refine Rc.goL mt_1233 0 (f2 := (10, [.ref 280, .int x1_16, .int t17], [], gm (wI M56 280 14 ((M56.1 280 14) + (1 : Int32))))) (b := true) rfl rfl ?_
              refine Rc.less (ls2 := [.ref 280, UU, UU]) (by refine ⟨Or.inr rfl, Or.inl rfl, Or.inl rfl, trivial⟩) ?_
              exact ih _ _ _ hs
        by_cases h65 : r13 = (-1 : Int32)
        · rw [if_pos h65] at hs
          refine Rc.goL mt_1233 3 (f2 := (if r13 = (-1 : Int32) then 47 else 51, [.ref 280, .int r13, UU], [], gm M14)) (b := true) rfl rfl ?_
          rw [if_pos h65]
          refine Rc.goL mt_1233 1 (f2 := (55, [.ref 280, .int r13, UU], [.int (-1 : Int32)], gm M14)) (b := true) rfl rfl ?_
          refine Rc.less (ls2 := [.ref 280, .int r13, UU]) (by refine ⟨Or.inr rfl, Or.inr rfl, Or.inl rfl, trivial⟩) ?_
          exact Hj61 r13 (-1 : Int32) _ _ _ hs
        · rw [if_neg h65] at hs
          refine Rc.goL mt_1233 3 (f2 := (if r13 = (-1 : Int32) then 47 else 51, [.ref 280, .int r13, UU], [], gm M14)) (b := true) rfl rfl ?_
          rw [if_neg h65]
          refine Rc.goL mt_1233 0 (f2 := (52, [.ref 280, .int r13, UU], [.int r13], gm M14)) (b := true) rfl rfl ?_
          obtain ⟨r62, M63, he64, hs⟩ := ob_some hs
          refine Rc.callS (i := 293) (mid' := 1220) (av := [.int r13]) (rest := []) (v := some (.int r62)) (M1 := gm M63) rfl (Or.inl rfl) rfl cw_1220 rfl (Nat.le_of_ble_eq_true rfl) (qmd_opOf_ok _ (by omega) he64) ?_
          refine Rc.less (ls2 := [.ref 280, .int r13, UU]) (by refine ⟨Or.inr rfl, Or.inr rfl, Or.inl rfl, trivial⟩) ?_
          exact Hj61 r13 r62 _ _ _ hs
set_option maxRecDepth 20000 in
theorem qmd_readsFormula_ok (d : Nat) (hd : 4 ≤ d) {M : SM} {r : Int32} {Mz : SM} (hs : qmd_readsFormula M = some (r, Mz)) : Ex d 1233 [.ref 280] (gm M) (some (.int r), gm Mz) := by
  obtain ⟨d, rfl⟩ : ∃ d0, d = d0 + 1 := ⟨d - 1, by omega⟩
  refine Ex.of okm_1233 (by omega) (Nat.le_of_ble_eq_true rfl) ?_
  show Rc (d + 1) 1233 (0, [.ref 280, UU, UU], [], gm M) _
  unfold qmd_readsFormula at hs
  refine Rc.goL mt_1233 2 (f2 := (5, [.ref 280, UU, UU], [], gm (wI M 280 17 (0 : Int32)))) (b := true) rfl rfl ?_
  refine Rc.goL mt_1233 2 (f2 := (10, [.ref 280, UU, UU], [], gm (wI (wI M 280 17 (0 : Int32)) 280 19 (0 : Int32)))) (b := true) rfl rfl ?_
  refine Rc.less (ls2 := [.ref 280, UU, UU]) (by refine ⟨Or.inr rfl, Or.inl rfl, Or.inl rfl, trivial⟩) ?_
  refine qmd_readsFormula_L10_ok d hd _ _ (fun M67 r Mz hs => ?_) (fun M72 r Mz hs => ?_) _ _ _ _ hs
  · refine Rc.goL mt_1233 3 (f2 := (121, [.ref 280, UU, UU], [.int (M67.1 280 14), .int (1 : Int32), .ref 280], gm M67)) (b := true) rfl rfl ?_
    obtain ⟨r68, M69, he70, hs⟩ := ob_some hs
    refine Rc.callV (i := 259) (mid' := 1216) (av := [.int (1 : Int32), .int (M67.1 280 14)]) (rest := []) (v := some (.int r68)) (M1 := gm M69) (a := 280) rfl rfl rfl cw_1216 rfl (Nat.le_of_ble_eq_true rfl) rfl (Nat.le_of_ble_eq_true rfl) (qmd_wrong_ok _ (by omega) he70) ?_
    obtain ⟨hc71, hs⟩ := ck_some hs
    obtain ⟨e1, e2⟩ := some_p hs; subst e1; subst e2
    exact Rc.ret (v := some (.int r68)) rfl hc71
  · refine Rc.goL mt_1233 1 (f2 := (176, [.ref 280, UU, UU], [.int (1 : Int32), .ref 280], gm M72)) (b := true) rfl rfl ?_
    obtain ⟨u75, M73, he74, hs⟩ := ob_some hs
    refine Rc.callV (i := 276) (mid' := 1224) (av := [.int (1 : Int32)]) (rest := []) (v := none) (M1 := gm M73) (a := 280) rfl rfl rfl cw_1224 rfl (Nat.le_of_ble_eq_true rfl) rfl (Nat.le_of_ble_eq_true rfl) (qmd_closes_ok _ (by omega) he74) ?_
    refine Rc.goL mt_1233 0 (f2 := (180, [.ref 280, UU, UU], [.ref 280], gm M73)) (b := true) rfl rfl ?_
    obtain ⟨r76, M77, he78, hs⟩ := ob_some hs
    refine Rc.callV (i := 239) (mid' := 1219) (av := []) (rest := []) (v := some (.int r76)) (M1 := gm M77) (a := 280) rfl rfl rfl cw_1219 rfl (Nat.le_of_ble_eq_true rfl) rfl (Nat.le_of_ble_eq_true rfl) (qmd_top_ok _ (by omega) he78) ?_
    obtain ⟨r79, M80, he81, hs⟩ := ob_some hs
    refine Rc.callS (i := 279) (mid' := 1223) (av := [.int r76]) (rest := []) (v := some (.int r79)) (M1 := gm M80) rfl (Or.inl rfl) rfl cw_1223 rfl (Nat.le_of_ble_eq_true rfl) (qmd_isCompared_ok _ (by omega) he81) ?_
    by_cases h94 : r79 = 0
    · rw [if_pos h94] at hs
      refine Rc.goL mt_1233 0 (f2 := (if r79 = 0 then 199 else 189, [.ref 280, UU, UU], [], gm M80)) (b := true) rfl rfl ?_
      rw [if_pos h94]
      refine Rc.goL mt_1233 0 (f2 := (200, [.ref 280, UU, UU], [.ref 280], gm M80)) (b := true) rfl rfl ?_
      obtain ⟨u84, M82, he83, hs⟩ := ob_some hs
      refine Rc.callV (i := 282) (mid' := 1229) (av := []) (rest := []) (v := none) (M1 := gm M82) (a := 280) rfl rfl rfl cw_1229 rfl (Nat.le_of_ble_eq_true rfl) rfl (Nat.le_of_ble_eq_true rfl) (qmd_lands_ok _ (by omega) he83) ?_
      by_cases h89 : (M82.1 280 19) = 0
      · rw [if_pos h89] at hs
        refine Rc.goL mt_1233 2 (f2 := (if (M82.1 280 19) = 0 then 222 else 210, [.ref 280, UU, UU], [], gm M82)) (b := true) rfl rfl ?_
        rw [if_pos h89]
        refine Rc.goL mt_1233 1 (f2 := (227, [.ref 280, UU, UU], [.int (1 : Int32)], gm M82)) (b := true) rfl rfl ?_
        obtain ⟨e1, e2⟩ := some_p hs; subst e1; subst e2
        exact Rc.ret (v := some (.int (1 : Int32))) rfl rfl
      · rw [if_neg h89] at hs
        refine Rc.goL mt_1233 2 (f2 := (if (M82.1 280 19) = 0 then 222 else 210, [.ref 280, UU, UU], [], gm M82)) (b := true) rfl rfl ?_
        rw [if_neg h89]
        refine Rc.goL mt_1233 3 (f2 := (216, [.ref 280, UU, UU], [.int (M82.1 280 14), .int (1 : Int32), .ref 280], gm M82)) (b := true) rfl rfl ?_
        obtain ⟨r85, M86, he87, hs⟩ := ob_some hs
        refine Rc.callV (i := 259) (mid' := 1216) (av := [.int (1 : Int32), .int (M82.1 280 14)]) (rest := []) (v := some (.int r85)) (M1 := gm M86) (a := 280) rfl rfl rfl cw_1216 rfl (Nat.le_of_ble_eq_true rfl) rfl (Nat.le_of_ble_eq_true rfl) (qmd_wrong_ok _ (by omega) he87) ?_
        by_cases h88 : r85 = 0
        · rw [if_pos h88] at hs
          refine Rc.goL mt_1233 0 (f2 := (if r85 = 0 then 226 else 222, [.ref 280, UU, UU], [], gm M86)) (b := true) rfl rfl ?_
          rw [if_pos h88]
          refine Rc.goL mt_1233 0 (f2 := (227, [.ref 280, UU, UU], [.int (0 : Int32)], gm M86)) (b := true) rfl rfl ?_
          obtain ⟨e1, e2⟩ := some_p hs; subst e1; subst e2
          exact Rc.ret (v := some (.int (0 : Int32))) rfl rfl
        · rw [if_neg h88] at hs
          refine Rc.goL mt_1233 0 (f2 := (if r85 = 0 then 226 else 222, [.ref 280, UU, UU], [], gm M86)) (b := true) rfl rfl ?_
          rw [if_neg h88]
          refine Rc.goL mt_1233 1 (f2 := (227, [.ref 280, UU, UU], [.int (1 : Int32)], gm M86)) (b := true) rfl rfl ?_
          obtain ⟨e1, e2⟩ := some_p hs; subst e1; subst e2
          exact Rc.ret (v := some (.int (1 : Int32))) rfl rfl
    · rw [if_neg h94] at hs
      refine Rc.goL mt_1233 0 (f2 := (if r79 = 0 then 199 else 189, [.ref 280, UU, UU], [], gm M80)) (b := true) rfl rfl ?_
      rw [if_neg h94]
      refine Rc.goL mt_1233 3 (f2 := (195, [.ref 280, UU, UU], [.int (M80.1 280 14), .int (1 : Int32), .ref 280], gm M80)) (b := true) rfl rfl ?_
      obtain ⟨r90, M91, he92, hs⟩ := ob_some hs
      refine Rc.callV (i := 259) (mid' := 1216) (av := [.int (1 : Int32), .int (M80.1 280 14)]) (rest := []) (v := some (.int r90)) (M1 := gm M91) (a := 280) rfl rfl rfl cw_1216 rfl (Nat.le_of_ble_eq_true rfl) rfl (Nat.le_of_ble_eq_true rfl) (qmd_wrong_ok _ (by omega) he92) ?_
      obtain ⟨hc93, hs⟩ := ck_some hs
      obtain ⟨e1, e2⟩ := some_p hs; subst e1; subst e2
      exact Rc.ret (v := some (.int r90)) rfl hc93
def qmd_hasSaid_L2 : Nat → Int32 → Int32 → SM → Option (Int32 × SM)
  | 0, _, _, _ => none
  | n + 1, x1, x2, M =>
    if x2 < (M.1 280 20) then
    (ck (ib 10 x2 && true) (
      if (M.1 292 (Int32.toNatClampNeg x2)) = x1 then
      (some ((1 : Int32), M)) else
      (qmd_hasSaid_L2 n x1 (x2 + (1 : Int32)) M))) else
    (some ((0 : Int32), M))
def qmd_hasSaid (x1 : Int32) (M : SM) : Option (Int32 × SM) :=
  qmd_hasSaid_L2 FU x1 (0 : Int32) M
theorem mt_1234 : MT 1234 K_1234 LN_12 := ⟨rfl, rfl, by decide +kernel⟩
theorem okm_1234 : OKm 1234 := ⟨⟨vE_1234, okL_12, by decide +kernel⟩, by decide +kernel, by decide +kernel, by decide +kernel⟩
set_option maxRecDepth 20000 in
theorem qmd_hasSaid_L2_ok (d : Nat) (hd : 1 ≤ d + 1) : ∀ (n : Nat) (x1 : Int32) (x2 : Int32) (M : SM) (r : Int32) (Mz : SM), qmd_hasSaid_L2 n x1 x2 M = some (r, Mz) → Rc (d + 1) 1234 (2, [.ref 280, .int x1, .int x2], [], gm M) (some (.int r), gm Mz) := by
  intro n
  induction n with
  | zero => intro x1 x2 M r Mz hs; cases hs
  | succ n ih =>
    intro x1 x2 M r Mz hs
    rw [qmd_hasSaid_L2] at hs
    by_cases h3 : x2 < (M.1 280 20)
    · rw [if_pos h3] at hs
      refine Rc.goL mt_1234 3 (f2 := (if x2 < (M.1 280 20) then 10 else 28, [.ref 280, .int x1, .int x2], [], gm M)) (b := true) rfl rfl ?_
      rw [if_pos h3]
      obtain ⟨hb1, hs⟩ := ck_some hs
      by_cases h2 : (M.1 292 (Int32.toNatClampNeg x2)) = x1
      · rw [if_pos h2] at hs
        refine Rc.goL mt_1234 5 (f2 := (if (M.1 292 (Int32.toNatClampNeg x2)) = x1 then 20 else 22, [.ref 280, .int x1, .int x2], [], gm M)) (b := (ib 10 x2 && true)) rfl hb1 ?_
        rw [if_pos h2]
        refine Rc.goL mt_1234 0 (f2 := (21, [.ref 280, .int x1, .int x2], [.int (1 : Int32)], gm M)) (b := true) rfl rfl ?_
        obtain ⟨e1, e2⟩ := some_p hs; subst e1; subst e2
        exact Rc.ret (v := some (.int (1 : Int32))) rfl rfl
      · rw [if_neg h2] at hs
        refine Rc.goL mt_1234 5 (f2 := (if (M.1 292 (Int32.toNatClampNeg x2)) = x1 then 20 else 22, [.ref 280, .int x1, .int x2], [], gm M)) (b := (ib 10 x2 && true)) rfl hb1 ?_
        rw [if_neg h2]
        refine Rc.goL mt_1234 1 (f2 := (2, [.ref 280, .int x1, .int (x2 + (1 : Int32))], [], gm M)) (b := true) rfl rfl ?_
        refine Rc.less (ls2 := [.ref 280, .int x1, .int (x2 + (1 : Int32))]) (by refine ⟨Or.inr rfl, Or.inr rfl, Or.inr rfl, trivial⟩) ?_
        exact ih x1 (x2 + (1 : Int32)) _ _ _ hs
    · rw [if_neg h3] at hs
      refine Rc.goL mt_1234 3 (f2 := (if x2 < (M.1 280 20) then 10 else 28, [.ref 280, .int x1, .int x2], [], gm M)) (b := true) rfl rfl ?_
      rw [if_neg h3]
      refine Rc.goL mt_1234 0 (f2 := (29, [.ref 280, .int x1, .int x2], [.int (0 : Int32)], gm M)) (b := true) rfl rfl ?_
      obtain ⟨e1, e2⟩ := some_p hs; subst e1; subst e2
      exact Rc.ret (v := some (.int (0 : Int32))) rfl rfl
set_option maxRecDepth 20000 in
theorem qmd_hasSaid_ok (d : Nat) (hd : 1 ≤ d) {x1 : Int32} {M : SM} {r : Int32} {Mz : SM} (hs : qmd_hasSaid x1 M = some (r, Mz)) : Ex d 1234 [.ref 280, .int x1] (gm M) (some (.int r), gm Mz) := by
  obtain ⟨d, rfl⟩ : ∃ d0, d = d0 + 1 := ⟨d - 1, by omega⟩
  refine Ex.of okm_1234 (by omega) (Nat.le_of_ble_eq_true rfl) ?_
  show Rc (d + 1) 1234 (0, [.ref 280, .int x1, UU], [], gm M) _
  unfold qmd_hasSaid at hs
  refine Rc.goL mt_1234 1 (f2 := (2, [.ref 280, .int x1, .int (0 : Int32)], [], gm M)) (b := true) rfl rfl ?_
  refine Rc.less (ls2 := [.ref 280, .int x1, .int (0 : Int32)]) (by refine ⟨Or.inr rfl, Or.inr rfl, Or.inr rfl, trivial⟩) ?_
  exact qmd_hasSaid_L2_ok d hd _ x1 (0 : Int32) _ _ _ hs
def qmd_readsNamed (M : SM) : Option (Int32 × SM) :=
  ob (qmd_sign M) (fun r1 M2 =>
  ob (qmd_isLetter r1 M2) (fun r4 M5 =>
  if r4 = 0 then
  (ob (qmd_wrong (1 : Int32) (M5.1 280 14) M5) (fun r7 M8 =>
    ck (decide (r7 = 0) || decide (r7 = 1)) (some (r7, M8)))) else
  (ob (qmd_sign M5) (fun r11 M12 =>
    ob (qmd_hasSaid (r11 - (65 : Int32)) M12) (fun r14 M15 =>
    if r14 = 0 then
    (if (M15.1 280 20) = (10 : Int32) then
      (ob (qmd_wrong (4 : Int32) (M15.1 280 14) M15) (fun r17 M18 =>
        ck (decide (r17 = 0) || decide (r17 = 1)) (some (r17, M18)))) else
      (ob (qmd_sign M15) (fun r21 M22 =>
        ck (ib 10 (M15.1 280 20) && (ib 10 (M22.1 280 20) && (ib 11 (M22.1 280 20) && true))) (
        ob (qmd_sign (wI (wI (wI (wI M22 292 (Int32.toNatClampNeg (M15.1 280 20)) (r21 - (65 : Int32))) 293 (Int32.toNatClampNeg (M22.1 280 20)) (M22.1 280 14)) 294 (Int32.toNatClampNeg (M22.1 280 20)) (M22.1 280 18)) 280 14 ((M22.1 280 14) + (1 : Int32)))) (fun r25 M26 =>
        if r25 = (61 : Int32) then
        (ob (qmd_readsFormula (wI M26 280 14 ((M26.1 280 14) + (1 : Int32)))) (fun r28 M29 =>
          if r28 = 0 then
          (some ((0 : Int32), M29)) else
          (ck (ib 11 ((M29.1 280 20) + (1 : Int32)) && true) (
            some ((1 : Int32), (wI (wI M29 280 20 ((M29.1 280 20) + (1 : Int32))) 294 (Int32.toNatClampNeg ((M29.1 280 20) + (1 : Int32))) (M29.1 280 18))))))) else
        (ob (qmd_wrong (1 : Int32) (M26.1 280 14) M26) (fun r33 M34 =>
          ck (decide (r33 = 0) || decide (r33 = 1)) (some (r33, M34))))))))) else
    (ob (qmd_wrong (3 : Int32) (M15.1 280 14) M15) (fun r39 M40 =>
      ck (decide (r39 = 0) || decide (r39 = 1)) (some (r39, M40)))))))))
theorem mt_1235 : MT 1235 K_1235 LN_12 := ⟨rfl, rfl, by decide +kernel⟩
theorem okm_1235 : OKm 1235 := ⟨⟨vE_1235, okL_12, by decide +kernel⟩, by decide +kernel, by decide +kernel, by decide +kernel⟩
set_option maxRecDepth 20000 in
theorem qmd_readsNamed_ok (d : Nat) (hd : 5 ≤ d) {M : SM} {r : Int32} {Mz : SM} (hs : qmd_readsNamed M = some (r, Mz)) : Ex d 1235 [.ref 280] (gm M) (some (.int r), gm Mz) := by
  obtain ⟨d, rfl⟩ : ∃ d0, d = d0 + 1 := ⟨d - 1, by omega⟩
  refine Ex.of okm_1235 (by omega) (Nat.le_of_ble_eq_true rfl) ?_
  show Rc (d + 1) 1235 (0, [.ref 280], [], gm M) _
  unfold qmd_readsNamed at hs
  refine Rc.goL mt_1235 0 (f2 := (1, [.ref 280], [.ref 280], gm M)) (b := true) rfl rfl ?_
  obtain ⟨r1, M2, he3, hs⟩ := ob_some hs
  refine Rc.callV (i := 253) (mid' := 1215) (av := []) (rest := []) (v := some (.int r1)) (M1 := gm M2) (a := 280) rfl rfl rfl cw_1215 rfl (Nat.le_of_ble_eq_true rfl) rfl (Nat.le_of_ble_eq_true rfl) (qmd_sign_ok _ (by omega) he3) ?_
  obtain ⟨r4, M5, he6, hs⟩ := ob_some hs
  refine Rc.callS (i := 269) (mid' := 1226) (av := [.int r1]) (rest := []) (v := some (.int r4)) (M1 := gm M5) rfl (Or.inl rfl) rfl cw_1226 rfl (Nat.le_of_ble_eq_true rfl) (qmd_isLetter_ok _ (by omega) he6) ?_
  by_cases h44 : r4 = 0
  · rw [if_pos h44] at hs
    refine Rc.goL mt_1235 0 (f2 := (if r4 = 0 then 10 else 20, [.ref 280], [], gm M5)) (b := true) rfl rfl ?_
    rw [if_pos h44]
    refine Rc.goL mt_1235 3 (f2 := (16, [.ref 280], [.int (M5.1 280 14), .int (1 : Int32), .ref 280], gm M5)) (b := true) rfl rfl ?_
    obtain ⟨r7, M8, he9, hs⟩ := ob_some hs
    refine Rc.callV (i := 259) (mid' := 1216) (av := [.int (1 : Int32), .int (M5.1 280 14)]) (rest := []) (v := some (.int r7)) (M1 := gm M8) (a := 280) rfl rfl rfl cw_1216 rfl (Nat.le_of_ble_eq_true rfl) rfl (Nat.le_of_ble_eq_true rfl) (qmd_wrong_ok _ (by omega) he9) ?_
    obtain ⟨hc10, hs⟩ := ck_some hs
    obtain ⟨e1, e2⟩ := some_p hs; subst e1; subst e2
    exact Rc.ret (v := some (.int r7)) rfl hc10
  · rw [if_neg h44] at hs
    refine Rc.goL mt_1235 0 (f2 := (if r4 = 0 then 10 else 20, [.ref 280], [], gm M5)) (b := true) rfl rfl ?_
    rw [if_neg h44]
    refine Rc.goL mt_1235 1 (f2 := (22, [.ref 280], [.ref 280, .ref 280], gm M5)) (b := true) rfl rfl ?_
    obtain ⟨r11, M12, he13, hs⟩ := ob_some hs
    refine Rc.callV (i := 253) (mid' := 1215) (av := []) (rest := [.ref 280]) (v := some (.int r11)) (M1 := gm M12) (a := 280) rfl rfl rfl cw_1215 rfl (Nat.le_of_ble_eq_true rfl) rfl (Nat.le_of_ble_eq_true rfl) (qmd_sign_ok _ (by omega) he13) ?_
    refine Rc.goL mt_1235 1 (f2 := (28, [.ref 280], [.int (r11 - (65 : Int32)), .ref 280], gm M12)) (b := true) rfl rfl ?_
    obtain ⟨r14, M15, he16, hs⟩ := ob_some hs
    refine Rc.callV (i := 305) (mid' := 1234) (av := [.int (r11 - (65 : Int32))]) (rest := []) (v := some (.int r14)) (M1 := gm M15) (a := 280) rfl rfl rfl cw_1234 rfl (Nat.le_of_ble_eq_true rfl) rfl (Nat.le_of_ble_eq_true rfl) (qmd_hasSaid_ok _ (by omega) he16) ?_
    by_cases h43 : r14 = 0
    · rw [if_pos h43] at hs
      refine Rc.goL mt_1235 0 (f2 := (if r14 = 0 then 44 else 34, [.ref 280], [], gm M15)) (b := true) rfl rfl ?_
      rw [if_pos h43]
      by_cases h38 : (M15.1 280 20) = (10 : Int32)
      · rw [if_pos h38] at hs
        refine Rc.goL mt_1235 3 (f2 := (if (M15.1 280 20) = (10 : Int32) then 53 else 63, [.ref 280], [], gm M15)) (b := true) rfl rfl ?_
        rw [if_pos h38]
        refine Rc.goL mt_1235 3 (f2 := (59, [.ref 280], [.int (M15.1 280 14), .int (4 : Int32), .ref 280], gm M15)) (b := true) rfl rfl ?_
        obtain ⟨r17, M18, he19, hs⟩ := ob_some hs
        refine Rc.callV (i := 259) (mid' := 1216) (av := [.int (4 : Int32), .int (M15.1 280 14)]) (rest := []) (v := some (.int r17)) (M1 := gm M18) (a := 280) rfl rfl rfl cw_1216 rfl (Nat.le_of_ble_eq_true rfl) rfl (Nat.le_of_ble_eq_true rfl) (qmd_wrong_ok _ (by omega) he19) ?_
        obtain ⟨hc20, hs⟩ := ck_some hs
        obtain ⟨e1, e2⟩ := some_p hs; subst e1; subst e2
        exact Rc.ret (v := some (.int r17)) rfl hc20
      · rw [if_neg h38] at hs
        refine Rc.goL mt_1235 3 (f2 := (if (M15.1 280 20) = (10 : Int32) then 53 else 63, [.ref 280], [], gm M15)) (b := true) rfl rfl ?_
        rw [if_neg h38]
        refine Rc.goL mt_1235 4 (f2 := (72, [.ref 280], [.ref 280, .int (M15.1 280 20), .ref 292], gm M15)) (b := true) rfl rfl ?_
        obtain ⟨r21, M22, he23, hs⟩ := ob_some hs
        refine Rc.callV (i := 253) (mid' := 1215) (av := []) (rest := [.int (M15.1 280 20), .ref 292]) (v := some (.int r21)) (M1 := gm M22) (a := 280) rfl rfl rfl cw_1215 rfl (Nat.le_of_ble_eq_true rfl) rfl (Nat.le_of_ble_eq_true rfl) (qmd_sign_ok _ (by omega) he23) ?_
        obtain ⟨hb24, hs⟩ := ck_some hs
        obtain ⟨hb24_0, hb24⟩ := and_t hb24
        obtain ⟨hb24_1, hb24⟩ := and_t hb24
        obtain ⟨hb24_2, hb24⟩ := and_t hb24
        refine Rc.goL mt_1235 2 (f2 := (79, [.ref 280], [], gm (wI M22 292 (Int32.toNatClampNeg (M15.1 280 20)) (r21 - (65 : Int32))))) (b := (ib 10 (M15.1 280 20) && true)) rfl (and_i hb24_0 rfl) ?_
        refine Rc.goL mt_1235 6 (f2 := (92, [.ref 280], [], gm (wI (wI M22 292 (Int32.toNatClampNeg (M15.1 280 20)) (r21 - (65 : Int32))) 293 (Int32.toNatClampNeg (M22.1 280 20)) (M22.1 280 14)))) (b := (ib 10 (M22.1 280 20) && true)) rfl (and_i hb24_1 rfl) ?_
        refine Rc.goL mt_1235 6 (f2 := (105, [.ref 280], [], gm (wI (wI (wI M22 292 (Int32.toNatClampNeg (M15.1 280 20)) (r21 - (65 : Int32))) 293 (Int32.toNatClampNeg (M22.1 280 20)) (M22.1 280 14)) 294 (Int32.toNatClampNeg (M22.1 280 20)) (M22.1 280 18)))) (b := (ib 11 (M22.1 280 20) && true)) rfl (and_i hb24_2 rfl) ?_
        refine Rc.goL mt_1235 5 (f2 := (115, [.ref 280], [], gm (wI (wI (wI (wI M22 292 (Int32.toNatClampNeg (M15.1 280 20)) (r21 - (65 : Int32))) 293 (Int32.toNatClampNeg (M22.1 280 20)) (M22.1 280 14)) 294 (Int32.toNatClampNeg (M22.1 280 20)) (M22.1 280 18)) 280 14 ((M22.1 280 14) + (1 : Int32))))) (b := true) rfl rfl ?_
        refine Rc.goL mt_1235 0 (f2 := (116, [.ref 280], [.ref 280], gm (wI (wI (wI (wI M22 292 (Int32.toNatClampNeg (M15.1 280 20)) (r21 - (65 : Int32))) 293 (Int32.toNatClampNeg (M22.1 280 20)) (M22.1 280 14)) 294 (Int32.toNatClampNeg (M22.1 280 20)) (M22.1 280 18)) 280 14 ((M22.1 280 14) + (1 : Int32))))) (b := true) rfl rfl ?_
        obtain ⟨r25, M26, he27, hs⟩ := ob_some hs
        refine Rc.callV (i := 253) (mid' := 1215) (av := []) (rest := []) (v := some (.int r25)) (M1 := gm M26) (a := 280) rfl rfl rfl cw_1215 rfl (Nat.le_of_ble_eq_true rfl) rfl (Nat.le_of_ble_eq_true rfl) (qmd_sign_ok _ (by omega) he27) ?_
        by_cases h37 : r25 = (61 : Int32)
        · rw [if_pos h37] at hs
          refine Rc.goL mt_1235 1 (f2 := (if r25 = (61 : Int32) then 134 else 124, [.ref 280], [], gm M26)) (b := true) rfl rfl ?_
          rw [if_pos h37]
          refine Rc.goL mt_1235 5 (f2 := (144, [.ref 280], [], gm (wI M26 280 14 ((M26.1 280 14) + (1 : Int32))))) (b := true) rfl rfl ?_
          refine Rc.goL mt_1235 0 (f2 := (145, [.ref 280], [.ref 280], gm (wI M26 280 14 ((M26.1 280 14) + (1 : Int32))))) (b := true) rfl rfl ?_
          obtain ⟨r28, M29, he30, hs⟩ := ob_some hs
          refine Rc.callV (i := 308) (mid' := 1233) (av := []) (rest := []) (v := some (.int r28)) (M1 := gm M29) (a := 280) rfl rfl rfl cw_1233 rfl (Nat.le_of_ble_eq_true rfl) rfl (Nat.le_of_ble_eq_true rfl) (qmd_readsFormula_ok _ (by omega) he30) ?_
          by_cases h32 : r28 = 0
          · rw [if_pos h32] at hs
            refine Rc.goL mt_1235 0 (f2 := (if r28 = 0 then 151 else 153, [.ref 280], [], gm M29)) (b := true) rfl rfl ?_
            rw [if_pos h32]
            refine Rc.goL mt_1235 0 (f2 := (152, [.ref 280], [.int (0 : Int32)], gm M29)) (b := true) rfl rfl ?_
            obtain ⟨e1, e2⟩ := some_p hs; subst e1; subst e2
            exact Rc.ret (v := some (.int (0 : Int32))) rfl rfl
          · rw [if_neg h32] at hs
            refine Rc.goL mt_1235 0 (f2 := (if r28 = 0 then 151 else 153, [.ref 280], [], gm M29)) (b := true) rfl rfl ?_
            rw [if_neg h32]
            obtain ⟨hb31, hs⟩ := ck_some hs
            obtain ⟨hb31_0, hb31⟩ := and_t hb31
            refine Rc.goL mt_1235 5 (f2 := (163, [.ref 280], [], gm (wI M29 280 20 ((M29.1 280 20) + (1 : Int32))))) (b := true) rfl rfl ?_
            refine Rc.goL mt_1235 6 (f2 := (176, [.ref 280], [], gm (wI (wI M29 280 20 ((M29.1 280 20) + (1 : Int32))) 294 (Int32.toNatClampNeg ((M29.1 280 20) + (1 : Int32))) (M29.1 280 18)))) (b := (ib 11 ((M29.1 280 20) + (1 : Int32)) && true)) rfl (and_i hb31_0 rfl) ?_
            refine Rc.goL mt_1235 0 (f2 := (177, [.ref 280], [.int (1 : Int32)], gm (wI (wI M29 280 20 ((M29.1 280 20) + (1 : Int32))) 294 (Int32.toNatClampNeg ((M29.1 280 20) + (1 : Int32))) (M29.1 280 18)))) (b := true) rfl rfl ?_
            obtain ⟨e1, e2⟩ := some_p hs; subst e1; subst e2
            exact Rc.ret (v := some (.int (1 : Int32))) rfl rfl
        · rw [if_neg h37] at hs
          refine Rc.goL mt_1235 1 (f2 := (if r25 = (61 : Int32) then 134 else 124, [.ref 280], [], gm M26)) (b := true) rfl rfl ?_
          rw [if_neg h37]
          refine Rc.goL mt_1235 3 (f2 := (130, [.ref 280], [.int (M26.1 280 14), .int (1 : Int32), .ref 280], gm M26)) (b := true) rfl rfl ?_
          obtain ⟨r33, M34, he35, hs⟩ := ob_some hs
          refine Rc.callV (i := 259) (mid' := 1216) (av := [.int (1 : Int32), .int (M26.1 280 14)]) (rest := []) (v := some (.int r33)) (M1 := gm M34) (a := 280) rfl rfl rfl cw_1216 rfl (Nat.le_of_ble_eq_true rfl) rfl (Nat.le_of_ble_eq_true rfl) (qmd_wrong_ok _ (by omega) he35) ?_
          obtain ⟨hc36, hs⟩ := ck_some hs
          obtain ⟨e1, e2⟩ := some_p hs; subst e1; subst e2
          exact Rc.ret (v := some (.int r33)) rfl hc36
    · rw [if_neg h43] at hs
      refine Rc.goL mt_1235 0 (f2 := (if r14 = 0 then 44 else 34, [.ref 280], [], gm M15)) (b := true) rfl rfl ?_
      rw [if_neg h43]
      refine Rc.goL mt_1235 3 (f2 := (40, [.ref 280], [.int (M15.1 280 14), .int (3 : Int32), .ref 280], gm M15)) (b := true) rfl rfl ?_
      obtain ⟨r39, M40, he41, hs⟩ := ob_some hs
      refine Rc.callV (i := 259) (mid' := 1216) (av := [.int (3 : Int32), .int (M15.1 280 14)]) (rest := []) (v := some (.int r39)) (M1 := gm M40) (a := 280) rfl rfl rfl cw_1216 rfl (Nat.le_of_ble_eq_true rfl) rfl (Nat.le_of_ble_eq_true rfl) (qmd_wrong_ok _ (by omega) he41) ?_
      obtain ⟨hc42, hs⟩ := ck_some hs
      obtain ⟨e1, e2⟩ := some_p hs; subst e1; subst e2
      exact Rc.ret (v := some (.int r39)) rfl hc42
def qmd_isFree_L38 (k99 : Int32 → Int32 → SM → Option (Int32 × SM)) : Nat → Int32 → Int32 → Int32 → SM → Option (Int32 × SM)
  | 0, _, _, _, _ => none
  | n + 1, x1, x2, x3, M =>
    if x3 < (M.1 280 20) then
    (ck (ib 220 x2 && true) (
      if ((M.1 290 (Int32.toNatClampNeg x2)) / (1048576 : Int32)) = (1 : Int32) then
      (ck (ib 220 x2 && (ib 10 x3 && true)) (
        if ((M.1 290 (Int32.toNatClampNeg x2)) - (M.1 290 (Int32.toNatClampNeg x2)) / (1048576 : Int32) * (1048576 : Int32)) = (M.1 292 (Int32.toNatClampNeg x3)) then
        (ck (ib 10 x1 && (ib 10 x1 && true)) (
          qmd_isFree_L38 k99 n x1 x2 (x3 + (1 : Int32)) (wI M 295 (Int32.toNatClampNeg x1) ((M.1 295 (Int32.toNatClampNeg x1)) ||| ((1 : Int32) <<< (x3 &&& 31)))))) else
        (qmd_isFree_L38 k99 n x1 x2 (x3 + (1 : Int32)) M))) else
      (qmd_isFree_L38 k99 n x1 x2 (x3 + (1 : Int32)) M))) else
    (k99 x1 x2 M)
def qmd_isFree_L24 (k105 : Int32 → SM → Option (Int32 × SM)) : Nat → Int32 → Int32 → SM → Option (Int32 × SM)
  | 0, _, _, _ => none
  | n + 1, x1, x2, M =>
    ck (ib 11 (x1 + (1 : Int32)) && true) (
    if x2 < (M.1 294 (Int32.toNatClampNeg (x1 + (1 : Int32)))) then
    (qmd_isFree_L38 (fun y1_9 y2_10 M11 =>
      qmd_isFree_L24 k105 n y1_9 (y2_10 + (1 : Int32)) M11) FU x1 x2 (0 : Int32) M) else
    (k105 x1 M))
def qmd_isFree_L2 (k111 : SM → Option (Int32 × SM)) : Nat → Int32 → SM → Option (Int32 × SM)
  | 0, _, _ => none
  | n + 1, x1, M =>
    if x1 < (M.1 280 20) then
    (ck (ib 10 x1 && (ib 11 x1 && true)) (
      qmd_isFree_L24 (fun y1_13 M14 =>
      qmd_isFree_L2 k111 n (y1_13 + (1 : Int32)) M14) FU x1 (M.1 294 (Int32.toNatClampNeg x1)) (wI M 295 (Int32.toNatClampNeg x1) (0 : Int32)))) else
    (k111 M)
def qmd_isFree_L131 (k178 : Int32 → Int32 → SM → Option (Int32 × SM)) : Nat → Int32 → Int32 → Int32 → SM → Option (Int32 × SM)
  | 0, _, _, _, _ => none
  | n + 1, x1, x2, x3, M =>
    if x3 < (M.1 280 20) then
    (ck (ib 10 x2 && true) (
      if (((M.1 295 (Int32.toNatClampNeg x2)) >>> (x3 &&& 31)) &&& (1 : Int32)) = (1 : Int32) then
      (ck (ib 10 x2 && (ib 10 x3 && (ib 10 x2 && true))) (
        qmd_isFree_L131 k178 n x1 x2 (x3 + (1 : Int32)) (wI M 295 (Int32.toNatClampNeg x2) ((M.1 295 (Int32.toNatClampNeg x2)) ||| (M.1 295 (Int32.toNatClampNeg x3)))))) else
      (qmd_isFree_L131 k178 n x1 x2 (x3 + (1 : Int32)) M))) else
    (k178 x1 x2 M)
def qmd_isFree_L121 (k184 : Int32 → SM → Option (Int32 × SM)) : Nat → Int32 → Int32 → SM → Option (Int32 × SM)
  | 0, _, _, _ => none
  | n + 1, x1, x2, M =>
    if x2 < (M.1 280 20) then
    (qmd_isFree_L131 (fun y1_21 y2_22 M23 =>
      qmd_isFree_L121 k184 n y1_21 (y2_22 + (1 : Int32)) M23) FU x1 x2 (0 : Int32) M) else
    (k184 x1 M)
def qmd_isFree_L113 (k190 : SM → Option (Int32 × SM)) : Nat → Int32 → SM → Option (Int32 × SM)
  | 0, _, _ => none
  | n + 1, x1, M =>
    if x1 < (10 : Int32) then
    (qmd_isFree_L121 (fun y1_25 M26 =>
      qmd_isFree_L113 k190 n (y1_25 + (1 : Int32)) M26) FU x1 (0 : Int32) M) else
    (k190 M)
def qmd_isFree_L192 (k214 : Int32 → SM → Option (Int32 × SM)) : Nat → Int32 → SM → Option (Int32 × SM)
  | 0, _, _ => none
  | n + 1, x1, M =>
    if x1 < (M.1 280 20) then
    (ck (ib 10 x1 && true) (
      if (((M.1 295 (Int32.toNatClampNeg x1)) >>> (x1 &&& 31)) &&& (1 : Int32)) = (1 : Int32) then
      (k214 x1 M) else
      (qmd_isFree_L192 k214 n (x1 + (1 : Int32)) M))) else
    (some ((1 : Int32), M))
def qmd_isFree (M : SM) : Option (Int32 × SM) :=
  qmd_isFree_L2 (fun M16 =>
  qmd_isFree_L113 (fun M28 =>
    qmd_isFree_L192 (fun y1_32 M33 =>
      ck (ib 10 y1_32 && true) (
        ob (qmd_wrong (6 : Int32) (M33.1 293 (Int32.toNatClampNeg y1_32)) M33) (fun r35 M36 =>
        ck (decide (r35 = 0) || decide (r35 = 1)) (some (r35, M36))))) FU (0 : Int32) M28) FU (0 : Int32) M16) FU (0 : Int32) M
theorem mt_1236 : MT 1236 K_1236 LN_12 := ⟨rfl, rfl, by decide +kernel⟩
theorem okm_1236 : OKm 1236 := ⟨⟨vE_1236, okL_12, by decide +kernel⟩, by decide +kernel, by decide +kernel, by decide +kernel⟩
set_option maxRecDepth 20000 in
theorem qmd_isFree_L38_ok (d : Nat) (hd : 2 ≤ d + 1) (k99 : Int32 → Int32 → SM → Option (Int32 × SM)) (hk99 : ∀ (y1 : Int32) (y2 : Int32) (M : SM) (r : Int32) (Mz : SM), k99 y1 y2 M = some (r, Mz) → Rc (d + 1) 1236 (99, [.ref 280, .int y1, .int y2, UU], [], gm M) (some (.int r), gm Mz)) : ∀ (n : Nat) (x1 : Int32) (x2 : Int32) (x3 : Int32) (M : SM) (r : Int32) (Mz : SM), qmd_isFree_L38 k99 n x1 x2 x3 M = some (r, Mz) → Rc (d + 1) 1236 (38, [.ref 280, .int x1, .int x2, .int x3], [], gm M) (some (.int r), gm Mz) := by
  intro n
  induction n with
  | zero => intro x1 x2 x3 M r Mz hs; cases hs
  | succ n ih =>
    intro x1 x2 x3 M r Mz hs
    rw [qmd_isFree_L38] at hs
    by_cases h8 : x3 < (M.1 280 20)
    · rw [if_pos h8] at hs
      refine Rc.goL mt_1236 3 (f2 := (if x3 < (M.1 280 20) then 46 else 99, [.ref 280, .int x1, .int x2, .int x3], [], gm M)) (b := true) rfl rfl ?_
      rw [if_pos h8]
      obtain ⟨hb3, hs⟩ := ck_some hs
      obtain ⟨hb3_0, hb3⟩ := and_t hb3
      refine Rc.goL mt_1236 6 (f2 := (56, [.ref 280, .int x1, .int x2, .int x3], [.int (1 : Int32), .int ((M.1 290 (Int32.toNatClampNeg x2)) / (1048576 : Int32))], gm M)) (b := (ib 220 x2 && true)) rfl (and_i hb3_0 rfl) ?_
      by_cases h7 : ((M.1 290 (Int32.toNatClampNeg x2)) / (1048576 : Int32)) = (1 : Int32)
      · rw [if_pos h7] at hs
        refine Rc.goL mt_1236 0 (f2 := (if ((M.1 290 (Int32.toNatClampNeg x2)) / (1048576 : Int32)) = (1 : Int32) then 59 else 93, [.ref 280, .int x1, .int x2, .int x3], [], gm M)) (b := true) rfl rfl ?_
        rw [if_pos h7]
        obtain ⟨hb4, hs⟩ := ck_some hs
        obtain ⟨hb4_0, hb4⟩ := and_t hb4
        obtain ⟨hb4_1, hb4⟩ := and_t hb4
        refine Rc.goL mt_1236 6 (f2 := (69, [.ref 280, .int x1, .int x2, .int x3], [.ref 280, .int ((M.1 290 (Int32.toNatClampNeg x2)) - (M.1 290 (Int32.toNatClampNeg x2)) / (1048576 : Int32) * (1048576 : Int32))], gm M)) (b := (ib 220 x2 && true)) rfl (and_i hb4_0 rfl) ?_
        by_cases h6 : ((M.1 290 (Int32.toNatClampNeg x2)) - (M.1 290 (Int32.toNatClampNeg x2)) / (1048576 : Int32) * (1048576 : Int32)) = (M.1 292 (Int32.toNatClampNeg x3))
        · rw [if_pos h6] at hs
          refine Rc.goL mt_1236 3 (f2 := (if ((M.1 290 (Int32.toNatClampNeg x2)) - (M.1 290 (Int32.toNatClampNeg x2)) / (1048576 : Int32) * (1048576 : Int32)) = (M.1 292 (Int32.toNatClampNeg x3)) then 77 else 93, [.ref 280, .int x1, .int x2, .int x3], [], gm M)) (b := (ib 10 x3 && true)) rfl (and_i hb4_1 rfl) ?_
          rw [if_pos h6]
          obtain ⟨hb5, hs⟩ := ck_some hs
          obtain ⟨hb5_0, hb5⟩ := and_t hb5
          obtain ⟨hb5_1, hb5⟩ := and_t hb5
          refine Rc.goL mt_1236 6 (f2 := (88, [.ref 280, .int x1, .int x2, .int x3], [.int (M.1 295 (Int32.toNatClampNeg x1)), .int x1, .ref 295], gm M)) (b := (ib 10 x1 && true)) rfl (and_i hb5_0 rfl) ?_
          refine Rc.goL mt_1236 4 (f2 := (93, [.ref 280, .int x1, .int x2, .int x3], [], gm (wI M 295 (Int32.toNatClampNeg x1) ((M.1 295 (Int32.toNatClampNeg x1)) ||| ((1 : Int32) <<< (x3 &&& 31)))))) (b := (ib 10 x1 && true)) rfl (and_i hb5_1 rfl) ?_
          refine Rc.goL mt_1236 1 (f2 := (38, [.ref 280, .int x1, .int x2, .int (x3 + (1 : Int32))], [], gm (wI M 295 (Int32.toNatClampNeg x1) ((M.1 295 (Int32.toNatClampNeg x1)) ||| ((1 : Int32) <<< (x3 &&& 31)))))) (b := true) rfl rfl ?_
          refine Rc.less (ls2 := [.ref 280, .int x1, .int x2, .int (x3 + (1 : Int32))]) (by refine ⟨Or.inr rfl, Or.inr rfl, Or.inr rfl, Or.inr rfl, trivial⟩) ?_
          exact ih x1 x2 (x3 + (1 : Int32)) _ _ _ hs
        · rw [if_neg h6] at hs
          refine Rc.goL mt_1236 3 (f2 := (if ((M.1 290 (Int32.toNatClampNeg x2)) - (M.1 290 (Int32.toNatClampNeg x2)) / (1048576 : Int32) * (1048576 : Int32)) = (M.1 292 (Int32.toNatClampNeg x3)) then 77 else 93, [.ref 280, .int x1, .int x2, .int x3], [], gm M)) (b := (ib 10 x3 && true)) rfl (and_i hb4_1 rfl) ?_
          rw [if_neg h6]
          refine Rc.goL mt_1236 1 (f2 := (38, [.ref 280, .int x1, .int x2, .int (x3 + (1 : Int32))], [], gm M)) (b := true) rfl rfl ?_
          refine Rc.less (ls2 := [.ref 280, .int x1, .int x2, .int (x3 + (1 : Int32))]) (by refine ⟨Or.inr rfl, Or.inr rfl, Or.inr rfl, Or.inr rfl, trivial⟩) ?_
          exact ih x1 x2 (x3 + (1 : Int32)) _ _ _ hs
      · rw [if_neg h7] at hs
        refine Rc.goL mt_1236 0 (f2 := (if ((M.1 290 (Int32.toNatClampNeg x2)) / (1048576 : Int32)) = (1 : Int32) then 59 else 93, [.ref 280, .int x1, .int x2, .int x3], [], gm M)) (b := true) rfl rfl ?_
        rw [if_neg h7]
        refine Rc.goL mt_1236 1 (f2 := (38, [.ref 280, .int x1, .int x2, .int (x3 + (1 : Int32))], [], gm M)) (b := true) rfl rfl ?_
        refine Rc.less (ls2 := [.ref 280, .int x1, .int x2, .int (x3 + (1 : Int32))]) (by refine ⟨Or.inr rfl, Or.inr rfl, Or.inr rfl, Or.inr rfl, trivial⟩) ?_
        exact ih x1 x2 (x3 + (1 : Int32)) _ _ _ hs
    · rw [if_neg h8] at hs
      refine Rc.goL mt_1236 3 (f2 := (if x3 < (M.1 280 20) then 46 else 99, [.ref 280, .int x1, .int x2, .int x3], [], gm M)) (b := true) rfl rfl ?_
      rw [if_neg h8]
      refine Rc.less (ls2 := [.ref 280, .int x1, .int x2, UU]) (by refine ⟨Or.inr rfl, Or.inr rfl, Or.inr rfl, Or.inl rfl, trivial⟩) ?_
      exact hk99 x1 x2 _ _ _ hs
set_option maxRecDepth 20000 in
theorem qmd_isFree_L24_ok (d : Nat) (hd : 2 ≤ d + 1) (k105 : Int32 → SM → Option (Int32 × SM)) (hk105 : ∀ (y1 : Int32) (M : SM) (r : Int32) (Mz : SM), k105 y1 M = some (r, Mz) → Rc (d + 1) 1236 (105, [.ref 280, .int y1, UU, UU], [], gm M) (some (.int r), gm Mz)) : ∀ (n : Nat) (x1 : Int32) (x2 : Int32) (M : SM) (r : Int32) (Mz : SM), qmd_isFree_L24 k105 n x1 x2 M = some (r, Mz) → Rc (d + 1) 1236 (24, [.ref 280, .int x1, .int x2, UU], [], gm M) (some (.int r), gm Mz) := by
  intro n
  induction n with
  | zero => intro x1 x2 M r Mz hs; cases hs
  | succ n ih =>
    intro x1 x2 M r Mz hs
    rw [qmd_isFree_L24] at hs
    obtain ⟨hb2, hs⟩ := ck_some hs
    obtain ⟨hb2_0, hb2⟩ := and_t hb2
    refine Rc.goL mt_1236 6 (f2 := (33, [.ref 280, .int x1, .int x2, UU], [.int (M.1 294 (Int32.toNatClampNeg (x1 + (1 : Int32)))), .int x2], gm M)) (b := (ib 11 (x1 + (1 : Int32)) && true)) rfl (and_i hb2_0 rfl) ?_
    by_cases h12 : x2 < (M.1 294 (Int32.toNatClampNeg (x1 + (1 : Int32))))
    · rw [if_pos h12] at hs
      refine Rc.goL mt_1236 0 (f2 := (if x2 < (M.1 294 (Int32.toNatClampNeg (x1 + (1 : Int32)))) then 36 else 105, [.ref 280, .int x1, .int x2, UU], [], gm M)) (b := true) rfl rfl ?_
      rw [if_pos h12]
      refine Rc.goL mt_1236 1 (f2 := (38, [.ref 280, .int x1, .int x2, .int (0 : Int32)], [], gm M)) (b := true) rfl rfl ?_
      refine Rc.less (ls2 := [.ref 280, .int x1, .int x2, .int (0 : Int32)]) (by refine ⟨Or.inr rfl, Or.inr rfl, Or.inr rfl, Or.inr rfl, trivial⟩) ?_
      refine qmd_isFree_L38_ok d hd _ (fun y1_9 y2_10 M11 r Mz hs => ?_) _ x1 x2 (0 : Int32) _ _ _ hs
      · refine Rc.goL mt_1236 1 (f2 := (24, [.ref 280, .int y1_9, .int (y2_10 + (1 : Int32)), UU], [], gm M11)) (b := true) rfl rfl ?_
        refine Rc.less (ls2 := [.ref 280, .int y1_9, .int (y2_10 + (1 : Int32)), UU]) (by refine ⟨Or.inr rfl, Or.inr rfl, Or.inr rfl, Or.inl rfl, trivial⟩) ?_
        exact ih y1_9 (y2_10 + (1 : Int32)) _ _ _ hs
    · rw [if_neg h12] at hs
      refine Rc.goL mt_1236 0 (f2 := (if x2 < (M.1 294 (Int32.toNatClampNeg (x1 + (1 : Int32)))) then 36 else 105, [.ref 280, .int x1, .int x2, UU], [], gm M)) (b := true) rfl rfl ?_
      rw [if_neg h12]
      refine Rc.less (ls2 := [.ref 280, .int x1, UU, UU]) (by refine ⟨Or.inr rfl, Or.inr rfl, Or.inl rfl, Or.inl rfl, trivial⟩) ?_
      exact hk105 x1 _ _ _ hs
set_option maxRecDepth 20000 in
theorem qmd_isFree_L2_ok (d : Nat) (hd : 2 ≤ d + 1) (k111 : SM → Option (Int32 × SM)) (hk111 : ∀ (M : SM) (r : Int32) (Mz : SM), k111 M = some (r, Mz) → Rc (d + 1) 1236 (111, [.ref 280, UU, UU, UU], [], gm M) (some (.int r), gm Mz)) : ∀ (n : Nat) (x1 : Int32) (M : SM) (r : Int32) (Mz : SM), qmd_isFree_L2 k111 n x1 M = some (r, Mz) → Rc (d + 1) 1236 (2, [.ref 280, .int x1, UU, UU], [], gm M) (some (.int r), gm Mz) := by
  intro n
  induction n with
  | zero => intro x1 M r Mz hs; cases hs
  | succ n ih =>
    intro x1 M r Mz hs
    rw [qmd_isFree_L2] at hs
    by_cases h15 : x1 < (M.1 280 20)
    · rw [if_pos h15] at hs
      refine Rc.goL mt_1236 3 (f2 := (if x1 < (M.1 280 20) then 10 else 111, [.ref 280, .int x1, UU, UU], [], gm M)) (b := true) rfl rfl ?_
      rw [if_pos h15]
      obtain ⟨hb1, hs⟩ := ck_some hs
      obtain ⟨hb1_0, hb1⟩ := and_t hb1
      obtain ⟨hb1_1, hb1⟩ := and_t hb1
      refine Rc.goL mt_1236 4 (f2 := (17, [.ref 280, .int x1, UU, UU], [], gm (wI M 295 (Int32.toNatClampNeg x1) (0 : Int32)))) (b := (ib 10 x1 && true)) rfl (and_i hb1_0 rfl) ?_
      refine Rc.goL mt_1236 4 (f2 := (24, [.ref 280, .int x1, .int (M.1 294 (Int32.toNatClampNeg x1)), UU], [], gm (wI M 295 (Int32.toNatClampNeg x1) (0 : Int32)))) (b := (ib 11 x1 && true)) rfl (and_i hb1_1 rfl) ?_
      refine Rc.less (ls2 := [.ref 280, .int x1, .int (M.1 294 (Int32.toNatClampNeg x1)), UU]) (by refine ⟨Or.inr rfl, Or.inr rfl, Or.inr rfl, Or.inl rfl, trivial⟩) ?_
      refine qmd_isFree_L24_ok d hd _ (fun y1_13 M14 r Mz hs => ?_) _ x1 (M.1 294 (Int32.toNatClampNeg x1)) _ _ _ hs
      · refine Rc.goL mt_1236 1 (f2 := (2, [.ref 280, .int (y1_13 + (1 : Int32)), UU, UU], [], gm M14)) (b := true) rfl rfl ?_
        refine Rc.less (ls2 := [.ref 280, .int (y1_13 + (1 : Int32)), UU, UU]) (by refine ⟨Or.inr rfl, Or.inr rfl, Or.inl rfl, Or.inl rfl, trivial⟩) ?_
        exact ih (y1_13 + (1 : Int32)) _ _ _ hs
    · rw [if_neg h15] at hs
      refine Rc.goL mt_1236 3 (f2 := (if x1 < (M.1 280 20) then 10 else 111, [.ref 280, .int x1, UU, UU], [], gm M)) (b := true) rfl rfl ?_
      rw [if_neg h15]
      refine Rc.less (ls2 := [.ref 280, UU, UU, UU]) (by refine ⟨Or.inr rfl, Or.inl rfl, Or.inl rfl, Or.inl rfl, trivial⟩) ?_
      exact hk111 _ _ _ hs
set_option maxRecDepth 20000 in
theorem qmd_isFree_L131_ok (d : Nat) (hd : 2 ≤ d + 1) (k178 : Int32 → Int32 → SM → Option (Int32 × SM)) (hk178 : ∀ (y1 : Int32) (y2 : Int32) (M : SM) (r : Int32) (Mz : SM), k178 y1 y2 M = some (r, Mz) → Rc (d + 1) 1236 (178, [.ref 280, .int y1, .int y2, UU], [], gm M) (some (.int r), gm Mz)) : ∀ (n : Nat) (x1 : Int32) (x2 : Int32) (x3 : Int32) (M : SM) (r : Int32) (Mz : SM), qmd_isFree_L131 k178 n x1 x2 x3 M = some (r, Mz) → Rc (d + 1) 1236 (131, [.ref 280, .int x1, .int x2, .int x3], [], gm M) (some (.int r), gm Mz) := by
  intro n
  induction n with
  | zero => intro x1 x2 x3 M r Mz hs; cases hs
  | succ n ih =>
    intro x1 x2 x3 M r Mz hs
    rw [qmd_isFree_L131] at hs
    by_cases h20 : x3 < (M.1 280 20)
    · rw [if_pos h20] at hs
      refine Rc.goL mt_1236 3 (f2 := (if x3 < (M.1 280 20) then 139 else 178, [.ref 280, .int x1, .int x2, .int x3], [], gm M)) (b := true) rfl rfl ?_
      rw [if_pos h20]
      obtain ⟨hb17, hs⟩ := ck_some hs
      obtain ⟨hb17_0, hb17⟩ := and_t hb17
      refine Rc.goL mt_1236 6 (f2 := (148, [.ref 280, .int x1, .int x2, .int x3], [.int (1 : Int32), .int ((M.1 295 (Int32.toNatClampNeg x2)) >>> (x3 &&& 31))], gm M)) (b := (ib 10 x2 && true)) rfl (and_i hb17_0 rfl) ?_
      by_cases h19 : (((M.1 295 (Int32.toNatClampNeg x2)) >>> (x3 &&& 31)) &&& (1 : Int32)) = (1 : Int32)
      · rw [if_pos h19] at hs
        refine Rc.goL mt_1236 2 (f2 := (if (((M.1 295 (Int32.toNatClampNeg x2)) >>> (x3 &&& 31)) &&& (1 : Int32)) = (1 : Int32) then 153 else 172, [.ref 280, .int x1, .int x2, .int x3], [], gm M)) (b := true) rfl rfl ?_
        rw [if_pos h19]
        obtain ⟨hb18, hs⟩ := ck_some hs
        obtain ⟨hb18_0, hb18⟩ := and_t hb18
        obtain ⟨hb18_1, hb18⟩ := and_t hb18
        obtain ⟨hb18_2, hb18⟩ := and_t hb18
        refine Rc.goL mt_1236 6 (f2 := (164, [.ref 280, .int x1, .int x2, .int x3], [.int (M.1 295 (Int32.toNatClampNeg x2)), .int x2, .ref 295], gm M)) (b := (ib 10 x2 && true)) rfl (and_i hb18_0 rfl) ?_
        refine Rc.goL mt_1236 5 (f2 := (172, [.ref 280, .int x1, .int x2, .int x3], [], gm (wI M 295 (Int32.toNatClampNeg x2) ((M.1 295 (Int32.toNatClampNeg x2)) ||| (M.1 295 (Int32.toNatClampNeg x3)))))) (b := (ib 10 x3 && (ib 10 x2 && true))) rfl (and_i hb18_1 (and_i hb18_2 rfl)) ?_
        refine Rc.goL mt_1236 1 (f2 := (131, [.ref 280, .int x1, .int x2, .int (x3 + (1 : Int32))], [], gm (wI M 295 (Int32.toNatClampNeg x2) ((M.1 295 (Int32.toNatClampNeg x2)) ||| (M.1 295 (Int32.toNatClampNeg x3)))))) (b := true) rfl rfl ?_
        refine Rc.less (ls2 := [.ref 280, .int x1, .int x2, .int (x3 + (1 : Int32))]) (by refine ⟨Or.inr rfl, Or.inr rfl, Or.inr rfl, Or.inr rfl, trivial⟩) ?_
        exact ih x1 x2 (x3 + (1 : Int32)) _ _ _ hs
      · rw [if_neg h19] at hs
        refine Rc.goL mt_1236 2 (f2 := (if (((M.1 295 (Int32.toNatClampNeg x2)) >>> (x3 &&& 31)) &&& (1 : Int32)) = (1 : Int32) then 153 else 172, [.ref 280, .int x1, .int x2, .int x3], [], gm M)) (b := true) rfl rfl ?_
        rw [if_neg h19]
        refine Rc.goL mt_1236 1 (f2 := (131, [.ref 280, .int x1, .int x2, .int (x3 + (1 : Int32))], [], gm M)) (b := true) rfl rfl ?_
        refine Rc.less (ls2 := [.ref 280, .int x1, .int x2, .int (x3 + (1 : Int32))]) (by refine ⟨Or.inr rfl, Or.inr rfl, Or.inr rfl, Or.inr rfl, trivial⟩) ?_
        exact ih x1 x2 (x3 + (1 : Int32)) _ _ _ hs
    · rw [if_neg h20] at hs
      refine Rc.goL mt_1236 3 (f2 := (if x3 < (M.1 280 20) then 139 else 178, [.ref 280, .int x1, .int x2, .int x3], [], gm M)) (b := true) rfl rfl ?_
      rw [if_neg h20]
      refine Rc.less (ls2 := [.ref 280, .int x1, .int x2, UU]) (by refine ⟨Or.inr rfl, Or.inr rfl, Or.inr rfl, Or.inl rfl, trivial⟩) ?_
      exact hk178 x1 x2 _ _ _ hs
set_option maxRecDepth 20000 in
theorem qmd_isFree_L121_ok (d : Nat) (hd : 2 ≤ d + 1) (k184 : Int32 → SM → Option (Int32 × SM)) (hk184 : ∀ (y1 : Int32) (M : SM) (r : Int32) (Mz : SM), k184 y1 M = some (r, Mz) → Rc (d + 1) 1236 (184, [.ref 280, .int y1, UU, UU], [], gm M) (some (.int r), gm Mz)) : ∀ (n : Nat) (x1 : Int32) (x2 : Int32) (M : SM) (r : Int32) (Mz : SM), qmd_isFree_L121 k184 n x1 x2 M = some (r, Mz) → Rc (d + 1) 1236 (121, [.ref 280, .int x1, .int x2, UU], [], gm M) (some (.int r), gm Mz) := by
  intro n
  induction n with
  | zero => intro x1 x2 M r Mz hs; cases hs
  | succ n ih =>
    intro x1 x2 M r Mz hs
    rw [qmd_isFree_L121] at hs
    by_cases h24 : x2 < (M.1 280 20)
    · rw [if_pos h24] at hs
      refine Rc.goL mt_1236 3 (f2 := (if x2 < (M.1 280 20) then 129 else 184, [.ref 280, .int x1, .int x2, UU], [], gm M)) (b := true) rfl rfl ?_
      rw [if_pos h24]
      refine Rc.goL mt_1236 1 (f2 := (131, [.ref 280, .int x1, .int x2, .int (0 : Int32)], [], gm M)) (b := true) rfl rfl ?_
      refine Rc.less (ls2 := [.ref 280, .int x1, .int x2, .int (0 : Int32)]) (by refine ⟨Or.inr rfl, Or.inr rfl, Or.inr rfl, Or.inr rfl, trivial⟩) ?_
      refine qmd_isFree_L131_ok d hd _ (fun y1_21 y2_22 M23 r Mz hs => ?_) _ x1 x2 (0 : Int32) _ _ _ hs
      · refine Rc.goL mt_1236 1 (f2 := (121, [.ref 280, .int y1_21, .int (y2_22 + (1 : Int32)), UU], [], gm M23)) (b := true) rfl rfl ?_
        refine Rc.less (ls2 := [.ref 280, .int y1_21, .int (y2_22 + (1 : Int32)), UU]) (by refine ⟨Or.inr rfl, Or.inr rfl, Or.inr rfl, Or.inl rfl, trivial⟩) ?_
        exact ih y1_21 (y2_22 + (1 : Int32)) _ _ _ hs
    · rw [if_neg h24] at hs
      refine Rc.goL mt_1236 3 (f2 := (if x2 < (M.1 280 20) then 129 else 184, [.ref 280, .int x1, .int x2, UU], [], gm M)) (b := true) rfl rfl ?_
      rw [if_neg h24]
      refine Rc.less (ls2 := [.ref 280, .int x1, UU, UU]) (by refine ⟨Or.inr rfl, Or.inr rfl, Or.inl rfl, Or.inl rfl, trivial⟩) ?_
      exact hk184 x1 _ _ _ hs
set_option maxRecDepth 20000 in
theorem qmd_isFree_L113_ok (d : Nat) (hd : 2 ≤ d + 1) (k190 : SM → Option (Int32 × SM)) (hk190 : ∀ (M : SM) (r : Int32) (Mz : SM), k190 M = some (r, Mz) → Rc (d + 1) 1236 (190, [.ref 280, UU, UU, UU], [], gm M) (some (.int r), gm Mz)) : ∀ (n : Nat) (x1 : Int32) (M : SM) (r : Int32) (Mz : SM), qmd_isFree_L113 k190 n x1 M = some (r, Mz) → Rc (d + 1) 1236 (113, [.ref 280, .int x1, UU, UU], [], gm M) (some (.int r), gm Mz) := by
  intro n
  induction n with
  | zero => intro x1 M r Mz hs; cases hs
  | succ n ih =>
    intro x1 M r Mz hs
    rw [qmd_isFree_L113] at hs
    by_cases h27 : x1 < (10 : Int32)
    · rw [if_pos h27] at hs
      refine Rc.goL mt_1236 2 (f2 := (if x1 < (10 : Int32) then 119 else 190, [.ref 280, .int x1, UU, UU], [], gm M)) (b := true) rfl rfl ?_
      rw [if_pos h27]
      refine Rc.goL mt_1236 1 (f2 := (121, [.ref 280, .int x1, .int (0 : Int32), UU], [], gm M)) (b := true) rfl rfl ?_
      refine Rc.less (ls2 := [.ref 280, .int x1, .int (0 : Int32), UU]) (by refine ⟨Or.inr rfl, Or.inr rfl, Or.inr rfl, Or.inl rfl, trivial⟩) ?_
      refine qmd_isFree_L121_ok d hd _ (fun y1_25 M26 r Mz hs => ?_) _ x1 (0 : Int32) _ _ _ hs
      · refine Rc.goL mt_1236 1 (f2 := (113, [.ref 280, .int (y1_25 + (1 : Int32)), UU, UU], [], gm M26)) (b := true) rfl rfl ?_
        refine Rc.less (ls2 := [.ref 280, .int (y1_25 + (1 : Int32)), UU, UU]) (by refine ⟨Or.inr rfl, Or.inr rfl, Or.inl rfl, Or.inl rfl, trivial⟩) ?_
        exact ih (y1_25 + (1 : Int32)) _ _ _ hs
    · rw [if_neg h27] at hs
      refine Rc.goL mt_1236 2 (f2 := (if x1 < (10 : Int32) then 119 else 190, [.ref 280, .int x1, UU, UU], [], gm M)) (b := true) rfl rfl ?_
      rw [if_neg h27]
      refine Rc.less (ls2 := [.ref 280, UU, UU, UU]) (by refine ⟨Or.inr rfl, Or.inl rfl, Or.inl rfl, Or.inl rfl, trivial⟩) ?_
      exact hk190 _ _ _ hs
set_option maxRecDepth 20000 in
theorem qmd_isFree_L192_ok (d : Nat) (hd : 2 ≤ d + 1) (k214 : Int32 → SM → Option (Int32 × SM)) (hk214 : ∀ (y1 : Int32) (M : SM) (r : Int32) (Mz : SM), k214 y1 M = some (r, Mz) → Rc (d + 1) 1236 (214, [.ref 280, .int y1, UU, UU], [], gm M) (some (.int r), gm Mz)) : ∀ (n : Nat) (x1 : Int32) (M : SM) (r : Int32) (Mz : SM), qmd_isFree_L192 k214 n x1 M = some (r, Mz) → Rc (d + 1) 1236 (192, [.ref 280, .int x1, UU, UU], [], gm M) (some (.int r), gm Mz) := by
  intro n
  induction n with
  | zero => intro x1 M r Mz hs; cases hs
  | succ n ih =>
    intro x1 M r Mz hs
    rw [qmd_isFree_L192] at hs
    by_cases h31 : x1 < (M.1 280 20)
    · rw [if_pos h31] at hs
      refine Rc.goL mt_1236 3 (f2 := (if x1 < (M.1 280 20) then 200 else 233, [.ref 280, .int x1, UU, UU], [], gm M)) (b := true) rfl rfl ?_
      rw [if_pos h31]
      obtain ⟨hb29, hs⟩ := ck_some hs
      obtain ⟨hb29_0, hb29⟩ := and_t hb29
      refine Rc.goL mt_1236 6 (f2 := (209, [.ref 280, .int x1, UU, UU], [.int (1 : Int32), .int ((M.1 295 (Int32.toNatClampNeg x1)) >>> (x1 &&& 31))], gm M)) (b := (ib 10 x1 && true)) rfl (and_i hb29_0 rfl) ?_
      by_cases h30 : (((M.1 295 (Int32.toNatClampNeg x1)) >>> (x1 &&& 31)) &&& (1 : Int32)) = (1 : Int32)
      · rw [if_pos h30] at hs
        refine Rc.goL mt_1236 2 (f2 := (if (((M.1 295 (Int32.toNatClampNeg x1)) >>> (x1 &&& 31)) &&& (1 : Int32)) = (1 : Int32) then 214 else 227, [.ref 280, .int x1, UU, UU], [], gm M)) (b := true) rfl rfl ?_
        rw [if_pos h30]
        refine Rc.less (ls2 := [.ref 280, .int x1, UU, UU]) (by refine ⟨Or.inr rfl, Or.inr rfl, Or.inl rfl, Or.inl rfl, trivial⟩) ?_
        exact hk214 x1 _ _ _ hs
      · rw [if_neg h30] at hs
        refine Rc.goL mt_1236 2 (f2 := (if (((M.1 295 (Int32.toNatClampNeg x1)) >>> (x1 &&& 31)) &&& (1 : Int32)) = (1 : Int32) then 214 else 227, [.ref 280, .int x1, UU, UU], [], gm M)) (b := true) rfl rfl ?_
        rw [if_neg h30]
        refine Rc.goL mt_1236 1 (f2 := (192, [.ref 280, .int (x1 + (1 : Int32)), UU, UU], [], gm M)) (b := true) rfl rfl ?_
        refine Rc.less (ls2 := [.ref 280, .int (x1 + (1 : Int32)), UU, UU]) (by refine ⟨Or.inr rfl, Or.inr rfl, Or.inl rfl, Or.inl rfl, trivial⟩) ?_
        exact ih (x1 + (1 : Int32)) _ _ _ hs
    · rw [if_neg h31] at hs
      refine Rc.goL mt_1236 3 (f2 := (if x1 < (M.1 280 20) then 200 else 233, [.ref 280, .int x1, UU, UU], [], gm M)) (b := true) rfl rfl ?_
      rw [if_neg h31]
      refine Rc.goL mt_1236 0 (f2 := (234, [.ref 280, .int x1, UU, UU], [.int (1 : Int32)], gm M)) (b := true) rfl rfl ?_
      obtain ⟨e1, e2⟩ := some_p hs; subst e1; subst e2
      exact Rc.ret (v := some (.int (1 : Int32))) rfl rfl
set_option maxRecDepth 20000 in
theorem qmd_isFree_ok (d : Nat) (hd : 2 ≤ d) {M : SM} {r : Int32} {Mz : SM} (hs : qmd_isFree M = some (r, Mz)) : Ex d 1236 [.ref 280] (gm M) (some (.int r), gm Mz) := by
  obtain ⟨d, rfl⟩ : ∃ d0, d = d0 + 1 := ⟨d - 1, by omega⟩
  refine Ex.of okm_1236 (by omega) (Nat.le_of_ble_eq_true rfl) ?_
  show Rc (d + 1) 1236 (0, [.ref 280, UU, UU, UU], [], gm M) _
  unfold qmd_isFree at hs
  refine Rc.goL mt_1236 1 (f2 := (2, [.ref 280, .int (0 : Int32), UU, UU], [], gm M)) (b := true) rfl rfl ?_
  refine Rc.less (ls2 := [.ref 280, .int (0 : Int32), UU, UU]) (by refine ⟨Or.inr rfl, Or.inr rfl, Or.inl rfl, Or.inl rfl, trivial⟩) ?_
  refine qmd_isFree_L2_ok d hd _ (fun M16 r Mz hs => ?_) _ (0 : Int32) _ _ _ hs
  · refine Rc.goL mt_1236 1 (f2 := (113, [.ref 280, .int (0 : Int32), UU, UU], [], gm M16)) (b := true) rfl rfl ?_
    refine Rc.less (ls2 := [.ref 280, .int (0 : Int32), UU, UU]) (by refine ⟨Or.inr rfl, Or.inr rfl, Or.inl rfl, Or.inl rfl, trivial⟩) ?_
    refine qmd_isFree_L113_ok d hd _ (fun M28 r Mz hs => ?_) _ (0 : Int32) _ _ _ hs
    · refine Rc.goL mt_1236 1 (f2 := (192, [.ref 280, .int (0 : Int32), UU, UU], [], gm M28)) (b := true) rfl rfl ?_
      refine Rc.less (ls2 := [.ref 280, .int (0 : Int32), UU, UU]) (by refine ⟨Or.inr rfl, Or.inr rfl, Or.inl rfl, Or.inl rfl, trivial⟩) ?_
      refine qmd_isFree_L192_ok d hd _ (fun y1_32 M33 r Mz hs => ?_) _ (0 : Int32) _ _ _ hs
      · obtain ⟨hb34, hs⟩ := ck_some hs
        refine Rc.goL mt_1236 5 (f2 := (223, [.ref 280, .int y1_32, UU, UU], [.int (M33.1 293 (Int32.toNatClampNeg y1_32)), .int (6 : Int32), .ref 280], gm M33)) (b := (ib 10 y1_32 && true)) rfl hb34 ?_
        obtain ⟨r35, M36, he37, hs⟩ := ob_some hs
        refine Rc.callV (i := 259) (mid' := 1216) (av := [.int (6 : Int32), .int (M33.1 293 (Int32.toNatClampNeg y1_32))]) (rest := []) (v := some (.int r35)) (M1 := gm M36) (a := 280) rfl rfl rfl cw_1216 rfl (Nat.le_of_ble_eq_true rfl) rfl (Nat.le_of_ble_eq_true rfl) (qmd_wrong_ok _ (by omega) he37) ?_
        obtain ⟨hc38, hs⟩ := ck_some hs
        obtain ⟨e1, e2⟩ := some_p hs; subst e1; subst e2
        exact Rc.ret (v := some (.int r35)) rfl hc38
def qmd_needsOf_L4 : Nat → Int32 → Int32 → Int32 → SM → Option (Int32 × SM)
  | 0, _, _, _, _ => none
  | n + 1, x1, x2, x3, M =>
    if x3 < (10 : Int32) then
    (ck (ib 10 x1 && true) (
      lt (x2 + (((M.1 295 (Int32.toNatClampNeg x1)) >>> (x3 &&& 31)) &&& (1 : Int32))) (fun (z2 : Int32) =>
      qmd_needsOf_L4 n x1 z2 (x3 + (1 : Int32)) M))) else
    (some (x2, M))
def qmd_needsOf (x1 : Int32) (M : SM) : Option (Int32 × SM) :=
  qmd_needsOf_L4 FU x1 (0 : Int32) (0 : Int32) M
theorem mt_1237 : MT 1237 K_1237 LN_12 := ⟨rfl, rfl, by decide +kernel⟩
theorem okm_1237 : OKm 1237 := ⟨⟨vE_1237, okL_12, by decide +kernel⟩, by decide +kernel, by decide +kernel, by decide +kernel⟩
set_option maxRecDepth 20000 in
theorem qmd_needsOf_L4_ok (d : Nat) (hd : 1 ≤ d + 1) : ∀ (n : Nat) (x1 : Int32) (x2 : Int32) (x3 : Int32) (M : SM) (r : Int32) (Mz : SM), qmd_needsOf_L4 n x1 x2 x3 M = some (r, Mz) → Rc (d + 1) 1237 (4, [.ref 280, .int x1, .int x2, .int x3], [], gm M) (some (.int r), gm Mz) := by
  intro n
  induction n with
  | zero => intro x1 x2 x3 M r Mz hs; cases hs
  | succ n ih =>
    intro x1 x2 x3 M r Mz hs
    rw [qmd_needsOf_L4] at hs
    by_cases h3 : x3 < (10 : Int32)
    · rw [if_pos h3] at hs
      refine Rc.goL mt_1237 2 (f2 := (if x3 < (10 : Int32) then 10 else 29, [.ref 280, .int x1, .int x2, .int x3], [], gm M)) (b := true) rfl rfl ?_
      rw [if_pos h3]
      obtain ⟨hb1, hs⟩ := ck_some hs
      obtain ⟨hb1_0, hb1⟩ := and_t hb1
      refine Rc.goL mt_1237 6 (f2 := (19, [.ref 280, .int x1, .int x2, .int x3], [.int ((M.1 295 (Int32.toNatClampNeg x1)) >>> (x3 &&& 31)), .int x2], gm M)) (b := (ib 10 x1 && true)) rfl (and_i hb1_0 rfl) ?_
      refine lt_g hs (fun z2 Hz2 hs => ?_)
      refine Rc.goL mt_1237 3 (f2 := (23, [.ref 280, .int x1, .int z2, .int x3], [], gm M)) (b := true) (by subst Hz2; rfl) rfl ?_
      refine Rc.goL mt_1237 1 (f2 := (4, [.ref 280, .int x1, .int z2, .int (x3 + (1 : Int32))], [], gm M)) (b := true) rfl rfl ?_
      refine Rc.less (ls2 := [.ref 280, .int x1, .int z2, .int (x3 + (1 : Int32))]) (by refine ⟨Or.inr rfl, Or.inr rfl, Or.inr rfl, Or.inr rfl, trivial⟩) ?_
      exact ih x1 z2 (x3 + (1 : Int32)) _ _ _ hs
    · rw [if_neg h3] at hs
      refine Rc.goL mt_1237 2 (f2 := (if x3 < (10 : Int32) then 10 else 29, [.ref 280, .int x1, .int x2, .int x3], [], gm M)) (b := true) rfl rfl ?_
      rw [if_neg h3]
      refine Rc.goL mt_1237 0 (f2 := (30, [.ref 280, .int x1, .int x2, .int x3], [.int x2], gm M)) (b := true) rfl rfl ?_
      obtain ⟨e1, e2⟩ := some_p hs; subst e1; subst e2
      exact Rc.ret (v := some (.int x2)) rfl rfl
set_option maxRecDepth 20000 in
theorem qmd_needsOf_ok (d : Nat) (hd : 1 ≤ d) {x1 : Int32} {M : SM} {r : Int32} {Mz : SM} (hs : qmd_needsOf x1 M = some (r, Mz)) : Ex d 1237 [.ref 280, .int x1] (gm M) (some (.int r), gm Mz) := by
  obtain ⟨d, rfl⟩ : ∃ d0, d = d0 + 1 := ⟨d - 1, by omega⟩
  refine Ex.of okm_1237 (by omega) (Nat.le_of_ble_eq_true rfl) ?_
  show Rc (d + 1) 1237 (0, [.ref 280, .int x1, UU, UU], [], gm M) _
  unfold qmd_needsOf at hs
  refine Rc.goL mt_1237 3 (f2 := (4, [.ref 280, .int x1, .int (0 : Int32), .int (0 : Int32)], [], gm M)) (b := true) rfl rfl ?_
  refine Rc.less (ls2 := [.ref 280, .int x1, .int (0 : Int32), .int (0 : Int32)]) (by refine ⟨Or.inr rfl, Or.inr rfl, Or.inr rfl, Or.inr rfl, trivial⟩) ?_
  exact qmd_needsOf_L4_ok d hd _ x1 (0 : Int32) (0 : Int32) _ _ _ hs
def qmd_list_L55 (k127 : Int32 → SM → Option (Int32 × SM)) : Nat → Int32 → SM → Option (Int32 × SM)
  | 0, _, _ => none
  | n + 1, x2, M =>
    if x2 = 0 then
    (k127 x2 M) else
    (if (M.1 280 14) < (M.1 280 15) then
      (ob (qmd_sign M) (fun r7 M8 =>
        jn (fun (t10 : Int32) (M11 : SM) =>
          if t10 = 0 then
            (qmd_list_L55 k127 n (0 : Int32) (wI M11 280 14 ((M11.1 280 14) + (1 : Int32)))) else
            (ob (qmd_readsNamed (wI M11 280 14 ((M11.1 280 14) + (1 : Int32)))) (fun r12 M13 =>
              if r12 = 0 then
              (qmd_list_L55 k127 n (0 : Int32) M13) else
              (qmd_list_L55 k127 n (1 : Int32) M13)))) (fun j17 =>
        jn (fun (M18 : SM) =>
          j17 (1 : Int32) M18) (fun j19 =>
        if r7 = (59 : Int32) then
        (j19 M8) else
        (ob (qmd_wrong (1 : Int32) (M8.1 280 14) M8) (fun r20 M21 =>
          if r20 = 0 then
          (j17 (0 : Int32) M21) else
          (j19 M21))))))) else
      (k127 x2 M))
def qmd_list_L150 (k185 : SM → Option (Int32 × SM)) : Nat → Int32 → SM → Option (Int32 × SM)
  | 0, _, _ => none
  | n + 1, x3, M =>
    if x3 < (M.1 280 18) then
    (ck (ib 220 x3 && (ib 2200 (((220 : Int32) * (M.1 280 27)) + x3) && true)) (
      qmd_list_L150 k185 n (x3 + (1 : Int32)) (wI M 296 (Int32.toNatClampNeg (((220 : Int32) * (M.1 280 27)) + x3)) (M.1 290 (Int32.toNatClampNeg x3))))) else
    (k185 M)
def qmd_list_L200 (k298 : Int32 → Int32 → SM → Option (Int32 × SM)) : Nat → Int32 → Int32 → Int32 → SM → Option (Int32 × SM)
  | 0, _, _, _, _ => none
  | n + 1, x3, x4, x5, M =>
    if x5 < (M.1 280 20) then
    (ob (qmd_needsOf x5 M) (fun r35 M36 =>
      if r35 = x4 then
      (ck (ib 10 x5 && (ib 100 (((10 : Int32) * (M36.1 280 27)) + x3) && (ib 11 x5 && (ib 100 (((10 : Int32) * (M36.1 280 27)) + x3) && (ib 11 (x5 + (1 : Int32)) && (ib 100 (((10 : Int32) * (M36.1 280 27)) + x3) && true)))))) (
        qmd_list_L200 k298 n (x3 + (1 : Int32)) x4 (x5 + (1 : Int32)) (wI (wI (wI M36 298 (Int32.toNatClampNeg (((10 : Int32) * (M36.1 280 27)) + x3)) (M36.1 292 (Int32.toNatClampNeg x5))) 299 (Int32.toNatClampNeg (((10 : Int32) * (M36.1 280 27)) + x3)) (M36.1 294 (Int32.toNatClampNeg x5))) 300 (Int32.toNatClampNeg (((10 : Int32) * (M36.1 280 27)) + x3)) (M36.1 294 (Int32.toNatClampNeg (x5 + (1 : Int32))))))) else
      (qmd_list_L200 k298 n x3 x4 (x5 + (1 : Int32)) M36))) else
    (k298 x3 x4 M)
def qmd_list_L190 (k304 : SM → Option (Int32 × SM)) : Nat → Int32 → Int32 → SM → Option (Int32 × SM)
  | 0, _, _, _ => none
  | n + 1, x3, x4, M =>
    if x4 < (10 : Int32) then
    (qmd_list_L200 (fun y3_41 y4_42 M43 =>
      qmd_list_L190 k304 n y3_41 (y4_42 + (1 : Int32)) M43) FU x3 x4 (0 : Int32) M) else
    (k304 M)
def qmd_list (x1 : Int32) (M : SM) : Option (Int32 × SM) :=
  ob (qmd_in x1 (1 : Int32) (200 : Int32) M) (fun r1 M2 =>
  if r1 = 0 then
  (some ((-1 : Int32), M2)) else
  (if (M2.1 280 13) < x1 then
    (some ((-1 : Int32), M2)) else
    (if (M2.1 280 27) = (10 : Int32) then
      (some ((-1 : Int32), M2)) else
      (ob (qmd_readsNamed (wI (wI (wI (wI M2 280 14 (0 : Int32)) 280 15 x1) 280 18 (0 : Int32)) 280 20 (0 : Int32))) (fun r4 M5 =>
        qmd_list_L55 (fun y2_27 M28 =>
        if y2_27 = 0 then
          (some ((M28.1 280 16), (wI M28 280 13 (0 : Int32)))) else
          (ob (qmd_isFree (wI M28 280 13 (0 : Int32))) (fun r29 M30 =>
            if r29 = 0 then
            (some ((M30.1 280 16), M30)) else
            (qmd_list_L150 (fun M34 =>
              qmd_list_L190 (fun M45 =>
                ck (ib 10 (M45.1 280 27) && true) (
                  some ((((M45.1 280 27) + (1 : Int32)) - (1 : Int32)), (wI (wI M45 297 (Int32.toNatClampNeg (M45.1 280 27)) (M45.1 280 20)) 280 27 ((M45.1 280 27) + (1 : Int32)))))) FU (0 : Int32) (0 : Int32) M34) FU (0 : Int32) M30)))) FU r4 M5)))))
theorem mt_1238 : MT 1238 K_1238 LN_12 := ⟨rfl, rfl, by decide +kernel⟩
theorem okm_1238 : OKm 1238 := ⟨⟨vE_1238, okL_12, by decide +kernel⟩, by decide +kernel, by decide +kernel, by decide +kernel⟩
set_option maxRecDepth 20000 in
theorem qmd_list_L55_ok (d : Nat) (hd : 6 ≤ d + 1) (k127 : Int32 → SM → Option (Int32 × SM)) (hk127 : ∀ (y2 : Int32) (M : SM) (r : Int32) (Mz : SM), k127 y2 M = some (r, Mz) → Rc (d + 1) 1238 (127, [.ref 280, UU, .int y2, UU, UU, UU], [], gm M) (some (.int r), gm Mz)) : ∀ (n : Nat) (x2 : Int32) (M : SM) (r : Int32) (Mz : SM), qmd_list_L55 k127 n x2 M = some (r, Mz) → Rc (d + 1) 1238 (55, [.ref 280, UU, .int x2, UU, UU, UU], [], gm M) (some (.int r), gm Mz) := by
  intro n
  induction n with
  | zero => intro x2 M r Mz hs; cases hs
  | succ n ih =>
    intro x2 M r Mz hs
    rw [qmd_list_L55] at hs
    by_cases h26 : x2 = 0
    · rw [if_pos h26] at hs
      refine Rc.goL mt_1238 1 (f2 := (if x2 = 0 then 127 else 59, [.ref 280, UU, .int x2, UU, UU, UU], [], gm M)) (b := true) rfl rfl ?_
      rw [if_pos h26]
      refine Rc.less (ls2 := [.ref 280, UU, .int x2, UU, UU, UU]) (by refine ⟨Or.inr rfl, Or.inl rfl, Or.inr rfl, Or.inl rfl, Or.inl rfl, Or.inl rfl, trivial⟩) ?_
      exact hk127 x2 _ _ _ hs
    · rw [if_neg h26] at hs
      refine Rc.goL mt_1238 1 (f2 := (if x2 = 0 then 127 else 59, [.ref 280, UU, .int x2, UU, UU, UU], [], gm M)) (b := true) rfl rfl ?_
      rw [if_neg h26]
      by_cases h25 : (M.1 280 14) < (M.1 280 15)
      · rw [if_pos h25] at hs
        refine Rc.goL mt_1238 4 (f2 := (if (M.1 280 14) < (M.1 280 15) then 70 else 127, [.ref 280, UU, .int x2, UU, UU, UU], [], gm M)) (b := true) rfl rfl ?_
        rw [if_pos h25]
        refine Rc.goL mt_1238 0 (f2 := (71, [.ref 280, UU, .int x2, UU, UU, UU], [.ref 280], gm M)) (b := true) rfl rfl ?_
        obtain ⟨r7, M8, he9, hs⟩ := ob_some hs
        refine Rc.callV (i := 253) (mid' := 1215) (av := []) (rest := []) (v := some (.int r7)) (M1 := gm M8) (a := 280) rfl rfl rfl cw_1215 rfl (Nat.le_of_ble_eq_true rfl) rfl (Nat.le_of_ble_eq_true rfl) (qmd_sign_ok _ (by omega) he9) ?_
        refine jn_e (P := fun (j : Int32 → SM → Option (Int32 × SM)) => ∀ (t10 : Int32) (M11 : SM) (r : Int32) (Mz : SM), j t10 M11 = some (r, Mz) → Rc (d + 1) 1238 (96, [.ref 280, UU, UU, UU, UU, UU], [.int t10], gm M11) (some (.int r), gm Mz)) hs ?_ (fun j17 Hj17 hs => ?_)
        · intro t10 M11 r Mz hs
          try dsimp only at hs
          refine Rc.goL mt_1238 6 (f2 := (107, [.ref 280, UU, .int t10, UU, UU, UU], [], gm (wI M11 280 14 ((M11.1 280 14) + (1 : Int32))))) (b := true) rfl rfl ?_
          by_cases h16 : t10 = 0
          · rw [if_pos h16] at hs
            refine Rc.goL mt_1238 1 (f2 := (if t10 = 0 then 122 else 111, [.ref 280, UU, .int t10, UU, UU, UU], [], gm (wI M11 280 14 ((M11.1 280 14) + (1 : Int32))))) (b := true) rfl rfl ?_
            rw [if_pos h16]
            refine Rc.goL mt_1238 0 (f2 := (123, [.ref 280, UU, .int t10, UU, UU, UU], [.int (0 : Int32)], gm (wI M11 280 14 ((M11.1 280 14) + (1 : Int32))))) (b := true) rfl rfl ?_
            refine Rc.goL mt_1238 1 (f2 := (55, [.ref 280, UU, .int (0 : Int32), UU, UU, UU], [], gm (wI M11 280 14 ((M11.1 280 14) + (1 : Int32))))) (b := true) rfl rfl ?_
            refine Rc.less (ls2 := [.ref 280, UU, .int (0 : Int32), UU, UU, UU]) (by refine ⟨Or.inr rfl, Or.inl rfl, Or.inr rfl, Or.inl rfl, Or.inl rfl, Or.inl rfl, trivial⟩) ?_
            exact ih (0 : Int32) _ _ _ hs
          · rw [if_neg h16] at hs
            refine Rc.goL mt_1238 1 (f2 := (if t10 = 0 then 122 else 111, [.ref 280, UU, .int t10, UU, UU, UU], [], gm (wI M11 280 14 ((M11.1 280 14) + (1 : Int32))))) (b := true) rfl rfl ?_
            rw [if_neg h16]
            refine Rc.goL mt_1238 0 (f2 := (112, [.ref 280, UU, .int t10, UU, UU, UU], [.ref 280], gm (wI M11 280 14 ((M11.1 280 14) + (1 : Int32))))) (b := true) rfl rfl ?_
            obtain ⟨r12, M13, he14, hs⟩ := ob_some hs
            refine Rc.callV (i := 314) (mid' := 1235) (av := []) (rest := []) (v := some (.int r12)) (M1 := gm M13) (a := 280) rfl rfl rfl cw_1235 rfl (Nat.le_of_ble_eq_true rfl) rfl (Nat.le_of_ble_eq_true rfl) (qmd_readsNamed_ok _ (by omega) he14) ?_
            by_cases h15 : r12 = 0
            · rw [if_pos h15] at hs
              refine Rc.goL mt_1238 0 (f2 := (if r12 = 0 then 122 else 118, [.ref 280, UU, .int t10, UU, UU, UU], [], gm M13)) (b := true) rfl rfl ?_
              rw [if_pos h15]
              refine Rc.goL mt_1238 0 (f2 := (123, [.ref 280, UU, .int t10, UU, UU, UU], [.int (0 : Int32)], gm M13)) (b := true) rfl rfl ?_
              refine Rc.goL mt_1238 1 (f2 := (55, [.ref 280, UU, .int (0 : Int32), UU, UU, UU], [], gm M13)) (b := true) rfl rfl ?_
              refine Rc.less (ls2 := [.ref 280, UU, .int (0 : Int32), UU, UU, UU]) (by refine ⟨Or.inr rfl, Or.inl rfl, Or.inr rfl, Or.inl rfl, Or.inl rfl, Or.inl rfl, trivial⟩) ?_
              exact ih (0 : Int32) _ _ _ hs
            · rw [if_neg h15] at hs
              refine Rc.goL mt_1238 0 (f2 := (if r12 = 0 then 122 else 118, [.ref 280, UU, .int t10, UU, UU, UU], [], gm M13)) (b := true) rfl rfl ?_
              rw [if_neg h15]
              refine Rc.goL mt_1238 1 (f2 := (123, [.ref 280, UU, .int t10, UU, UU, UU], [.int (1 : Int32)], gm M13)) (b := true) rfl rfl ?_
              refine Rc.goL mt_1238 1 (f2 := (55, [.ref 280, UU, .int (1 : Int32), UU, UU, UU], [], gm M13)) (b := true) rfl rfl ?_
              refine Rc.less (ls2 := [.ref 280, UU, .int (1 : Int32), UU, UU, UU]) (by refine ⟨Or.inr rfl, Or.inl rfl, Or.inr rfl, Or.inl rfl, Or.inl rfl, Or.inl rfl, trivial⟩) ?_
              exact ih (1 : Int32) _ _ _ hs
        refine jn_e (P := fun (j : SM → Option (Int32 × SM)) => ∀ (M18 : SM) (r : Int32) (Mz : SM), j M18 = some (r, Mz) → Rc (d + 1) 1238 (91, [.ref 280, UU, UU, UU, UU, UU], [], gm M18) (some (.int r), gm Mz)) hs ?_ (fun j19 Hj19 hs => ?_)
        · intro  M18 r Mz hs
          try dsimp only at hs
          refine Rc.goL mt_1238 1 (f2 := (96, [.ref 280, UU, UU, UU, UU, UU], [.int (1 : Int32)], gm M18)) (b := true) rfl rfl ?_
          refine Rc.less (ls2 := [.ref 280, UU, UU, UU, UU, UU]) (by refine ⟨Or.inr rfl, Or.inl rfl, Or.inl rfl, Or.inl rfl, Or.inl rfl, Or.inl rfl, trivial⟩) ?_
          exact Hj17 (1 : Int32) _ _ _ hs
        by_cases h24 : r7 = (59 : Int32)
        · rw [if_pos h24] at hs
          refine Rc.goL mt_1238 1 (f2 := (if r7 = (59 : Int32) then 91 else 79, [.ref 280, UU, .int x2, UU, UU, UU], [], gm M8)) (b := true) rfl rfl ?_
          rw [if_pos h24]
          refine Rc.less (ls2 := [.ref 280, UU, UU, UU, UU, UU]) (by refine ⟨Or.inr rfl, Or.inl rfl, Or.inl rfl, Or.inl rfl, Or.inl rfl, Or.inl rfl, trivial⟩) ?_
          exact Hj19 _ _ _ hs
        · rw [if_neg h24] at hs
          refine Rc.goL mt_1238 1 (f2 := (if r7 = (59 : Int32) then 91 else 79, [.ref 280, UU, .int x2, UU, UU, UU], [], gm M8)) (b := true) rfl rfl ?_
          rw [if_neg h24]
          refine Rc.goL mt_1238 3 (f2 := (85, [.ref 280, UU, .int x2, UU, UU, UU], [.int (M8.1 280 14), .int (1 : Int32), .ref 280], gm M8)) (b := true) rfl rfl ?_
          obtain ⟨r20, M21, he22, hs⟩ := ob_some hs
          refine Rc.callV (i := 259) (mid' := 1216) (av := [.int (1 : Int32), .int (M8.1 280 14)]) (rest := []) (v := some (.int r20)) (M1 := gm M21) (a := 280) rfl rfl rfl cw_1216 rfl (Nat.le_of_ble_eq_true rfl) rfl (Nat.le_of_ble_eq_true rfl) (qmd_wrong_ok _ (by omega) he22) ?_
          by_cases h23 : r20 = 0
          · rw [if_pos h23] at hs
            refine Rc.goL mt_1238 0 (f2 := (if r20 = 0 then 95 else 91, [.ref 280, UU, .int x2, UU, UU, UU], [], gm M21)) (b := true) rfl rfl ?_
            rw [if_pos h23]
            refine Rc.goL mt_1238 0 (f2 := (96, [.ref 280, UU, .int x2, UU, UU, UU], [.int (0 : Int32)], gm M21)) (b := true) rfl rfl ?_
            refine Rc.less (ls2 := [.ref 280, UU, UU, UU, UU, UU]) (by refine ⟨Or.inr rfl, Or.inl rfl, Or.inl rfl, Or.inl rfl, Or.inl rfl, Or.inl rfl, trivial⟩) ?_
            exact Hj17 (0 : Int32) _ _ _ hs
          · rw [if_neg h23] at hs
            refine Rc.goL mt_1238 0 (f2 := (if r20 = 0 then 95 else 91, [.ref 280, UU, .int x2, UU, UU, UU], [], gm M21)) (b := true) rfl rfl ?_
            rw [if_neg h23]
            refine Rc.less (ls2 := [.ref 280, UU, UU, UU, UU, UU]) (by refine ⟨Or.inr rfl, Or.inl rfl, Or.inl rfl, Or.inl rfl, Or.inl rfl, Or.inl rfl, trivial⟩) ?_
            exact Hj19 _ _ _ hs
      · rw [if_neg h25] at hs
        refine Rc.goL mt_1238 4 (f2 := (if (M.1 280 14) < (M.1 280 15) then 70 else 127, [.ref 280, UU, .int x2, UU, UU, UU], [], gm M)) (b := true) rfl rfl ?_
        rw [if_neg h25]
        refine Rc.less (ls2 := [.ref 280, UU, .int x2, UU, UU, UU]) (by refine ⟨Or.inr rfl, Or.inl rfl, Or.inr rfl, Or.inl rfl, Or.inl rfl, Or.inl rfl, trivial⟩) ?_
        exact hk127 x2 _ _ _ hs
set_option maxRecDepth 20000 in
theorem qmd_list_L150_ok (d : Nat) (hd : 6 ≤ d + 1) (k185 : SM → Option (Int32 × SM)) (hk185 : ∀ (M : SM) (r : Int32) (Mz : SM), k185 M = some (r, Mz) → Rc (d + 1) 1238 (185, [.ref 280, UU, UU, UU, UU, UU], [], gm M) (some (.int r), gm Mz)) : ∀ (n : Nat) (x3 : Int32) (M : SM) (r : Int32) (Mz : SM), qmd_list_L150 k185 n x3 M = some (r, Mz) → Rc (d + 1) 1238 (150, [.ref 280, UU, UU, .int x3, UU, UU], [], gm M) (some (.int r), gm Mz) := by
  intro n
  induction n with
  | zero => intro x3 M r Mz hs; cases hs
  | succ n ih =>
    intro x3 M r Mz hs
    rw [qmd_list_L150] at hs
    by_cases h33 : x3 < (M.1 280 18)
    · rw [if_pos h33] at hs
      refine Rc.goL mt_1238 3 (f2 := (if x3 < (M.1 280 18) then 158 else 185, [.ref 280, UU, UU, .int x3, UU, UU], [], gm M)) (b := true) rfl rfl ?_
      rw [if_pos h33]
      obtain ⟨hb32, hs⟩ := ck_some hs
      obtain ⟨hb32_0, hb32⟩ := and_t hb32
      obtain ⟨hb32_1, hb32⟩ := and_t hb32
      refine Rc.goL mt_1238 6 (f2 := (171, [.ref 280, UU, UU, .int x3, UU, UU], [.int x3, .int ((220 : Int32) * (M.1 280 27)), .ref 296], gm M)) (b := true) rfl rfl ?_
      refine Rc.goL mt_1238 5 (f2 := (179, [.ref 280, UU, UU, .int x3, UU, UU], [], gm (wI M 296 (Int32.toNatClampNeg (((220 : Int32) * (M.1 280 27)) + x3)) (M.1 290 (Int32.toNatClampNeg x3))))) (b := (ib 220 x3 && (ib 2200 (((220 : Int32) * (M.1 280 27)) + x3) && true))) rfl (and_i hb32_0 (and_i hb32_1 rfl)) ?_
      refine Rc.goL mt_1238 1 (f2 := (150, [.ref 280, UU, UU, .int (x3 + (1 : Int32)), UU, UU], [], gm (wI M 296 (Int32.toNatClampNeg (((220 : Int32) * (M.1 280 27)) + x3)) (M.1 290 (Int32.toNatClampNeg x3))))) (b := true) rfl rfl ?_
      refine Rc.less (ls2 := [.ref 280, UU, UU, .int (x3 + (1 : Int32)), UU, UU]) (by refine ⟨Or.inr rfl, Or.inl rfl, Or.inl rfl, Or.inr rfl, Or.inl rfl, Or.inl rfl, trivial⟩) ?_
      exact ih (x3 + (1 : Int32)) _ _ _ hs
    · rw [if_neg h33] at hs
      refine Rc.goL mt_1238 3 (f2 := (if x3 < (M.1 280 18) then 158 else 185, [.ref 280, UU, UU, .int x3, UU, UU], [], gm M)) (b := true) rfl rfl ?_
      rw [if_neg h33]
      refine Rc.less (ls2 := [.ref 280, UU, UU, UU, UU, UU]) (by refine ⟨Or.inr rfl, Or.inl rfl, Or.inl rfl, Or.inl rfl, Or.inl rfl, Or.inl rfl, trivial⟩) ?_
      exact hk185 _ _ _ hs
set_option maxRecDepth 20000 in
theorem qmd_list_L200_ok (d : Nat) (hd : 6 ≤ d + 1) (k298 : Int32 → Int32 → SM → Option (Int32 × SM)) (hk298 : ∀ (y3 : Int32) (y4 : Int32) (M : SM) (r : Int32) (Mz : SM), k298 y3 y4 M = some (r, Mz) → Rc (d + 1) 1238 (298, [.ref 280, UU, UU, .int y3, .int y4, UU], [], gm M) (some (.int r), gm Mz)) : ∀ (n : Nat) (x3 : Int32) (x4 : Int32) (x5 : Int32) (M : SM) (r : Int32) (Mz : SM), qmd_list_L200 k298 n x3 x4 x5 M = some (r, Mz) → Rc (d + 1) 1238 (200, [.ref 280, UU, UU, .int x3, .int x4, .int x5], [], gm M) (some (.int r), gm Mz) := by
  intro n
  induction n with
  | zero => intro x3 x4 x5 M r Mz hs; cases hs
  | succ n ih =>
    intro x3 x4 x5 M r Mz hs
    rw [qmd_list_L200] at hs
    by_cases h40 : x5 < (M.1 280 20)
    · rw [if_pos h40] at hs
      refine Rc.goL mt_1238 3 (f2 := (if x5 < (M.1 280 20) then 209 else 298, [.ref 280, UU, UU, .int x3, .int x4, .int x5], [], gm M)) (b := true) rfl rfl ?_
      rw [if_pos h40]
      refine Rc.goL mt_1238 1 (f2 := (212, [.ref 280, UU, UU, .int x3, .int x4, .int x5], [.int x5, .ref 280], gm M)) (b := true) rfl rfl ?_
      obtain ⟨r35, M36, he37, hs⟩ := ob_some hs
      refine Rc.callV (i := 320) (mid' := 1237) (av := [.int x5]) (rest := []) (v := some (.int r35)) (M1 := gm M36) (a := 280) rfl rfl rfl cw_1237 rfl (Nat.le_of_ble_eq_true rfl) rfl (Nat.le_of_ble_eq_true rfl) (qmd_needsOf_ok _ (by omega) he37) ?_
      by_cases h39 : r35 = x4
      · rw [if_pos h39] at hs
        refine Rc.goL mt_1238 1 (f2 := (if r35 = x4 then 223 else 220, [.ref 280, UU, UU, .int x3, .int x4, .int x5], [], gm M36)) (b := true) rfl rfl ?_
        rw [if_pos h39]
        obtain ⟨hb38, hs⟩ := ck_some hs
        obtain ⟨hb38_0, hb38⟩ := and_t hb38
        obtain ⟨hb38_1, hb38⟩ := and_t hb38
        obtain ⟨hb38_2, hb38⟩ := and_t hb38
        obtain ⟨hb38_3, hb38⟩ := and_t hb38
        obtain ⟨hb38_4, hb38⟩ := and_t hb38
        obtain ⟨hb38_5, hb38⟩ := and_t hb38
        refine Rc.goL mt_1238 6 (f2 := (235, [.ref 280, UU, UU, .int x3, .int x4, .int x5], [.int x3, .int ((10 : Int32) * (M36.1 280 27)), .ref 298], gm M36)) (b := true) rfl rfl ?_
        refine Rc.goL mt_1238 5 (f2 := (244, [.ref 280, UU, UU, .int x3, .int x4, .int x5], [], gm (wI M36 298 (Int32.toNatClampNeg (((10 : Int32) * (M36.1 280 27)) + x3)) (M36.1 292 (Int32.toNatClampNeg x5))))) (b := (ib 10 x5 && (ib 100 (((10 : Int32) * (M36.1 280 27)) + x3) && true))) rfl (and_i hb38_0 (and_i hb38_1 rfl)) ?_
        refine Rc.goL mt_1238 6 (f2 := (256, [.ref 280, UU, UU, .int x3, .int x4, .int x5], [.int x3, .int ((10 : Int32) * (M36.1 280 27)), .ref 299], gm (wI M36 298 (Int32.toNatClampNeg (((10 : Int32) * (M36.1 280 27)) + x3)) (M36.1 292 (Int32.toNatClampNeg x5))))) (b := true) rfl rfl ?_
        refine Rc.goL mt_1238 5 (f2 := (265, [.ref 280, UU, UU, .int x3, .int x4, .int x5], [], gm (wI (wI M36 298 (Int32.toNatClampNeg (((10 : Int32) * (M36.1 280 27)) + x3)) (M36.1 292 (Int32.toNatClampNeg x5))) 299 (Int32.toNatClampNeg (((10 : Int32) * (M36.1 280 27)) + x3)) (M36.1 294 (Int32.toNatClampNeg x5))))) (b := (ib 11 x5 && (ib 100 (((10 : Int32) * (M36.1 280 27)) + x3) && true))) rfl (and_i hb38_2 (and_i hb38_3 rfl)) ?_
        refine Rc.goL mt_1238 6 (f2 := (277, [.ref 280, UU, UU, .int x3, .int x4, .int x5], [.int x3, .int ((10 : Int32) * (M36.1 280 27)), .ref 300], gm (wI (wI M36 298 (Int32.toNatClampNeg (((10 : Int32) * (M36.1 280 27)) + x3)) (M36.1 292 (Int32.toNatClampNeg x5))) 299 (Int32.toNatClampNeg (((10 : Int32) * (M36.1 280 27)) + x3)) (M36.1 294 (Int32.toNatClampNeg x5))))) (b := true) rfl rfl ?_
        refine Rc.goL mt_1238 6 (f2 := (287, [.ref 280, UU, UU, .int x3, .int x4, .int x5], [.int (M36.1 294 (Int32.toNatClampNeg (x5 + (1 : Int32)))), .int (((10 : Int32) * (M36.1 280 27)) + x3), .ref 300], gm (wI (wI M36 298 (Int32.toNatClampNeg (((10 : Int32) * (M36.1 280 27)) + x3)) (M36.1 292 (Int32.toNatClampNeg x5))) 299 (Int32.toNatClampNeg (((10 : Int32) * (M36.1 280 27)) + x3)) (M36.1 294 (Int32.toNatClampNeg x5))))) (b := (ib 11 (x5 + (1 : Int32)) && true)) rfl (and_i hb38_4 rfl) ?_
        refine Rc.goL mt_1238 0 (f2 := (288, [.ref 280, UU, UU, .int x3, .int x4, .int x5], [], gm (wI (wI (wI M36 298 (Int32.toNatClampNeg (((10 : Int32) * (M36.1 280 27)) + x3)) (M36.1 292 (Int32.toNatClampNeg x5))) 299 (Int32.toNatClampNeg (((10 : Int32) * (M36.1 280 27)) + x3)) (M36.1 294 (Int32.toNatClampNeg x5))) 300 (Int32.toNatClampNeg (((10 : Int32) * (M36.1 280 27)) + x3)) (M36.1 294 (Int32.toNatClampNeg (x5 + (1 : Int32))))))) (b := (ib 100 (((10 : Int32) * (M36.1 280 27)) + x3) && true)) rfl (and_i hb38_5 rfl) ?_
        refine Rc.goL mt_1238 3 (f2 := (292, [.ref 280, UU, UU, .int (x3 + (1 : Int32)), .int x4, .int x5], [], gm (wI (wI (wI M36 298 (Int32.toNatClampNeg (((10 : Int32) * (M36.1 280 27)) + x3)) (M36.1 292 (Int32.toNatClampNeg x5))) 299 (Int32.toNatClampNeg (((10 : Int32) * (M36.1 280 27)) + x3)) (M36.1 294 (Int32.toNatClampNeg x5))) 300 (Int32.toNatClampNeg (((10 : Int32) * (M36.1 280 27)) + x3)) (M36.1 294 (Int32.toNatClampNeg (x5 + (1 : Int32))))))) (b := true) rfl rfl ?_
        refine Rc.goL mt_1238 1 (f2 := (200, [.ref 280, UU, UU, .int (x3 + (1 : Int32)), .int x4, .int (x5 + (1 : Int32))], [], gm (wI (wI (wI M36 298 (Int32.toNatClampNeg (((10 : Int32) * (M36.1 280 27)) + x3)) (M36.1 292 (Int32.toNatClampNeg x5))) 299 (Int32.toNatClampNeg (((10 : Int32) * (M36.1 280 27)) + x3)) (M36.1 294 (Int32.toNatClampNeg x5))) 300 (Int32.toNatClampNeg (((10 : Int32) * (M36.1 280 27)) + x3)) (M36.1 294 (Int32.toNatClampNeg (x5 + (1 : Int32))))))) (b := true) rfl rfl ?_
        refine Rc.less (ls2 := [.ref 280, UU, UU, .int (x3 + (1 : Int32)), .int x4, .int (x5 + (1 : Int32))]) (by refine ⟨Or.inr rfl, Or.inl rfl, Or.inl rfl, Or.inr rfl, Or.inr rfl, Or.inr rfl, trivial⟩) ?_
        exact ih (x3 + (1 : Int32)) x4 (x5 + (1 : Int32)) _ _ _ hs
      · rw [if_neg h39] at hs
        refine Rc.goL mt_1238 1 (f2 := (if r35 = x4 then 223 else 220, [.ref 280, UU, UU, .int x3, .int x4, .int x5], [], gm M36)) (b := true) rfl rfl ?_
        rw [if_neg h39]
        refine Rc.goL mt_1238 0 (f2 := (292, [.ref 280, UU, UU, .int x3, .int x4, .int x5], [], gm M36)) (b := true) rfl rfl ?_
        refine Rc.goL mt_1238 1 (f2 := (200, [.ref 280, UU, UU, .int x3, .int x4, .int (x5 + (1 : Int32))], [], gm M36)) (b := true) rfl rfl ?_
        refine Rc.less (ls2 := [.ref 280, UU, UU, .int x3, .int x4, .int (x5 + (1 : Int32))]) (by refine ⟨Or.inr rfl, Or.inl rfl, Or.inl rfl, Or.inr rfl, Or.inr rfl, Or.inr rfl, trivial⟩) ?_
        exact ih x3 x4 (x5 + (1 : Int32)) _ _ _ hs
    · rw [if_neg h40] at hs
      refine Rc.goL mt_1238 3 (f2 := (if x5 < (M.1 280 20) then 209 else 298, [.ref 280, UU, UU, .int x3, .int x4, .int x5], [], gm M)) (b := true) rfl rfl ?_
      rw [if_neg h40]
      refine Rc.less (ls2 := [.ref 280, UU, UU, .int x3, .int x4, UU]) (by refine ⟨Or.inr rfl, Or.inl rfl, Or.inl rfl, Or.inr rfl, Or.inr rfl, Or.inl rfl, trivial⟩) ?_
      exact hk298 x3 x4 _ _ _ hs
set_option maxRecDepth 20000 in
theorem qmd_list_L190_ok (d : Nat) (hd : 6 ≤ d + 1) (k304 : SM → Option (Int32 × SM)) (hk304 : ∀ (M : SM) (r : Int32) (Mz : SM), k304 M = some (r, Mz) → Rc (d + 1) 1238 (304, [.ref 280, UU, UU, UU, UU, UU], [], gm M) (some (.int r), gm Mz)) : ∀ (n : Nat) (x3 : Int32) (x4 : Int32) (M : SM) (r : Int32) (Mz : SM), qmd_list_L190 k304 n x3 x4 M = some (r, Mz) → Rc (d + 1) 1238 (190, [.ref 280, UU, UU, .int x3, .int x4, UU], [], gm M) (some (.int r), gm Mz) := by
  intro n
  induction n with
  | zero => intro x3 x4 M r Mz hs; cases hs
  | succ n ih =>
    intro x3 x4 M r Mz hs
    rw [qmd_list_L190] at hs
    by_cases h44 : x4 < (10 : Int32)
    · rw [if_pos h44] at hs
      refine Rc.goL mt_1238 2 (f2 := (if x4 < (10 : Int32) then 197 else 304, [.ref 280, UU, UU, .int x3, .int x4, UU], [], gm M)) (b := true) rfl rfl ?_
      rw [if_pos h44]
      refine Rc.goL mt_1238 1 (f2 := (200, [.ref 280, UU, UU, .int x3, .int x4, .int (0 : Int32)], [], gm M)) (b := true) rfl rfl ?_
      refine Rc.less (ls2 := [.ref 280, UU, UU, .int x3, .int x4, .int (0 : Int32)]) (by refine ⟨Or.inr rfl, Or.inl rfl, Or.inl rfl, Or.inr rfl, Or.inr rfl, Or.inr rfl, trivial⟩) ?_
      refine qmd_list_L200_ok d hd _ (fun y3_41 y4_42 M43 r Mz hs => ?_) _ x3 x4 (0 : Int32) _ _ _ hs
      · refine Rc.goL mt_1238 1 (f2 := (190, [.ref 280, UU, UU, .int y3_41, .int (y4_42 + (1 : Int32)), UU], [], gm M43)) (b := true) rfl rfl ?_
        refine Rc.less (ls2 := [.ref 280, UU, UU, .int y3_41, .int (y4_42 + (1 : Int32)), UU]) (by refine ⟨Or.inr rfl, Or.inl rfl, Or.inl rfl, Or.inr rfl, Or.inr rfl, Or.inl rfl, trivial⟩) ?_
        exact ih y3_41 (y4_42 + (1 : Int32)) _ _ _ hs
    · rw [if_neg h44] at hs
      refine Rc.goL mt_1238 2 (f2 := (if x4 < (10 : Int32) then 197 else 304, [.ref 280, UU, UU, .int x3, .int x4, UU], [], gm M)) (b := true) rfl rfl ?_
      rw [if_neg h44]
      refine Rc.less (ls2 := [.ref 280, UU, UU, UU, UU, UU]) (by refine ⟨Or.inr rfl, Or.inl rfl, Or.inl rfl, Or.inl rfl, Or.inl rfl, Or.inl rfl, trivial⟩) ?_
      exact hk304 _ _ _ hs
set_option maxRecDepth 20000 in
theorem qmd_list_ok (d : Nat) (hd : 6 ≤ d) {x1 : Int32} {M : SM} {r : Int32} {Mz : SM} (hs : qmd_list x1 M = some (r, Mz)) : Ex d 1238 [.ref 280, .int x1] (gm M) (some (.int r), gm Mz) := by
  obtain ⟨d, rfl⟩ : ∃ d0, d = d0 + 1 := ⟨d - 1, by omega⟩
  refine Ex.of okm_1238 (by omega) (Nat.le_of_ble_eq_true rfl) ?_
  show Rc (d + 1) 1238 (0, [.ref 280, .int x1, UU, UU, UU, UU], [], gm M) _
  unfold qmd_list at hs
  refine Rc.goL mt_1238 2 (f2 := (5, [.ref 280, .int x1, UU, UU, UU, UU], [.int (200 : Int32), .int (1 : Int32), .int x1], gm M)) (b := true) rfl rfl ?_
  obtain ⟨r1, M2, he3, hs⟩ := ob_some hs
  refine Rc.callS (i := 195) (mid' := 1201) (av := [.int x1, .int (1 : Int32), .int (200 : Int32)]) (rest := []) (v := some (.int r1)) (M1 := gm M2) rfl (Or.inl rfl) rfl cw_1201 rfl (Nat.le_of_ble_eq_true rfl) (qmd_in_ok _ (by omega) he3) ?_
  by_cases h51 : r1 = 0
  · rw [if_pos h51] at hs
    refine Rc.goL mt_1238 0 (f2 := (if r1 = 0 then 28 else 11, [.ref 280, .int x1, UU, UU, UU, UU], [], gm M2)) (b := true) rfl rfl ?_
    rw [if_pos h51]
    refine Rc.goL mt_1238 0 (f2 := (29, [.ref 280, .int x1, UU, UU, UU, UU], [.int (-1 : Int32)], gm M2)) (b := true) rfl rfl ?_
    obtain ⟨e1, e2⟩ := some_p hs; subst e1; subst e2
    exact Rc.ret (v := some (.int (-1 : Int32))) rfl rfl
  · rw [if_neg h51] at hs
    refine Rc.goL mt_1238 0 (f2 := (if r1 = 0 then 28 else 11, [.ref 280, .int x1, UU, UU, UU, UU], [], gm M2)) (b := true) rfl rfl ?_
    rw [if_neg h51]
    by_cases h50 : (M2.1 280 13) < x1
    · rw [if_pos h50] at hs
      refine Rc.goL mt_1238 3 (f2 := (if (M2.1 280 13) < x1 then 28 else 19, [.ref 280, .int x1, UU, UU, UU, UU], [], gm M2)) (b := true) rfl rfl ?_
      rw [if_pos h50]
      refine Rc.goL mt_1238 0 (f2 := (29, [.ref 280, .int x1, UU, UU, UU, UU], [.int (-1 : Int32)], gm M2)) (b := true) rfl rfl ?_
      obtain ⟨e1, e2⟩ := some_p hs; subst e1; subst e2
      exact Rc.ret (v := some (.int (-1 : Int32))) rfl rfl
    · rw [if_neg h50] at hs
      refine Rc.goL mt_1238 3 (f2 := (if (M2.1 280 13) < x1 then 28 else 19, [.ref 280, .int x1, UU, UU, UU, UU], [], gm M2)) (b := true) rfl rfl ?_
      rw [if_neg h50]
      by_cases h49 : (M2.1 280 27) = (10 : Int32)
      · rw [if_pos h49] at hs
        refine Rc.goL mt_1238 3 (f2 := (if (M2.1 280 27) = (10 : Int32) then 28 else 30, [.ref 280, .int x1, UU, UU, UU, UU], [], gm M2)) (b := true) rfl rfl ?_
        rw [if_pos h49]
        refine Rc.goL mt_1238 0 (f2 := (29, [.ref 280, .int x1, UU, UU, UU, UU], [.int (-1 : Int32)], gm M2)) (b := true) rfl rfl ?_
        obtain ⟨e1, e2⟩ := some_p hs; subst e1; subst e2
        exact Rc.ret (v := some (.int (-1 : Int32))) rfl rfl
      · rw [if_neg h49] at hs
        refine Rc.goL mt_1238 3 (f2 := (if (M2.1 280 27) = (10 : Int32) then 28 else 30, [.ref 280, .int x1, UU, UU, UU, UU], [], gm M2)) (b := true) rfl rfl ?_
        rw [if_neg h49]
        refine Rc.goL mt_1238 2 (f2 := (35, [.ref 280, .int x1, UU, UU, UU, UU], [], gm (wI M2 280 14 (0 : Int32)))) (b := true) rfl rfl ?_
        refine Rc.goL mt_1238 2 (f2 := (40, [.ref 280, .int x1, UU, UU, UU, UU], [], gm (wI (wI M2 280 14 (0 : Int32)) 280 15 x1))) (b := true) rfl rfl ?_
        refine Rc.goL mt_1238 2 (f2 := (45, [.ref 280, .int x1, UU, UU, UU, UU], [], gm (wI (wI (wI M2 280 14 (0 : Int32)) 280 15 x1) 280 18 (0 : Int32)))) (b := true) rfl rfl ?_
        refine Rc.goL mt_1238 2 (f2 := (50, [.ref 280, .int x1, UU, UU, UU, UU], [], gm (wI (wI (wI (wI M2 280 14 (0 : Int32)) 280 15 x1) 280 18 (0 : Int32)) 280 20 (0 : Int32)))) (b := true) rfl rfl ?_
        refine Rc.goL mt_1238 0 (f2 := (51, [.ref 280, .int x1, UU, UU, UU, UU], [.ref 280], gm (wI (wI (wI (wI M2 280 14 (0 : Int32)) 280 15 x1) 280 18 (0 : Int32)) 280 20 (0 : Int32)))) (b := true) rfl rfl ?_
        obtain ⟨r4, M5, he6, hs⟩ := ob_some hs
        refine Rc.callV (i := 314) (mid' := 1235) (av := []) (rest := []) (v := some (.int r4)) (M1 := gm M5) (a := 280) rfl rfl rfl cw_1235 rfl (Nat.le_of_ble_eq_true rfl) rfl (Nat.le_of_ble_eq_true rfl) (qmd_readsNamed_ok _ (by omega) he6) ?_
        refine Rc.goL mt_1238 0 (f2 := (55, [.ref 280, .int x1, .int r4, UU, UU, UU], [], gm M5)) (b := true) rfl rfl ?_
        refine Rc.less (ls2 := [.ref 280, UU, .int r4, UU, UU, UU]) (by refine ⟨Or.inr rfl, Or.inl rfl, Or.inr rfl, Or.inl rfl, Or.inl rfl, Or.inl rfl, trivial⟩) ?_
        refine qmd_list_L55_ok d hd _ (fun y2_27 M28 r Mz hs => ?_) _ r4 _ _ _ hs
        · refine Rc.goL mt_1238 2 (f2 := (132, [.ref 280, UU, .int y2_27, UU, UU, UU], [], gm (wI M28 280 13 (0 : Int32)))) (b := true) rfl rfl ?_
          by_cases h48 : y2_27 = 0
          · rw [if_pos h48] at hs
            refine Rc.goL mt_1238 1 (f2 := (if y2_27 = 0 then 143 else 136, [.ref 280, UU, .int y2_27, UU, UU, UU], [], gm (wI M28 280 13 (0 : Int32)))) (b := true) rfl rfl ?_
            rw [if_pos h48]
            refine Rc.goL mt_1238 1 (f2 := (147, [.ref 280, UU, .int y2_27, UU, UU, UU], [.int (M28.1 280 16)], gm (wI M28 280 13 (0 : Int32)))) (b := true) rfl rfl ?_
            obtain ⟨e1, e2⟩ := some_p hs; subst e1; subst e2
            exact Rc.ret (v := some (.int (M28.1 280 16))) rfl rfl
          · rw [if_neg h48] at hs
            refine Rc.goL mt_1238 1 (f2 := (if y2_27 = 0 then 143 else 136, [.ref 280, UU, .int y2_27, UU, UU, UU], [], gm (wI M28 280 13 (0 : Int32)))) (b := true) rfl rfl ?_
            rw [if_neg h48]
            refine Rc.goL mt_1238 0 (f2 := (137, [.ref 280, UU, .int y2_27, UU, UU, UU], [.ref 280], gm (wI M28 280 13 (0 : Int32)))) (b := true) rfl rfl ?_
            obtain ⟨r29, M30, he31, hs⟩ := ob_some hs
            refine Rc.callV (i := 317) (mid' := 1236) (av := []) (rest := []) (v := some (.int r29)) (M1 := gm M30) (a := 280) rfl rfl rfl cw_1236 rfl (Nat.le_of_ble_eq_true rfl) rfl (Nat.le_of_ble_eq_true rfl) (qmd_isFree_ok _ (by omega) he31) ?_
            by_cases h47 : r29 = 0
            · rw [if_pos h47] at hs
              refine Rc.goL mt_1238 0 (f2 := (if r29 = 0 then 143 else 148, [.ref 280, UU, .int y2_27, UU, UU, UU], [], gm M30)) (b := true) rfl rfl ?_
              rw [if_pos h47]
              refine Rc.goL mt_1238 1 (f2 := (147, [.ref 280, UU, .int y2_27, UU, UU, UU], [.int (M30.1 280 16)], gm M30)) (b := true) rfl rfl ?_
              obtain ⟨e1, e2⟩ := some_p hs; subst e1; subst e2
              exact Rc.ret (v := some (.int (M30.1 280 16))) rfl rfl
            · rw [if_neg h47] at hs
              refine Rc.goL mt_1238 0 (f2 := (if r29 = 0 then 143 else 148, [.ref 280, UU, .int y2_27, UU, UU, UU], [], gm M30)) (b := true) rfl rfl ?_
              rw [if_neg h47]
              refine Rc.goL mt_1238 1 (f2 := (150, [.ref 280, UU, .int y2_27, .int (0 : Int32), UU, UU], [], gm M30)) (b := true) rfl rfl ?_
              refine Rc.less (ls2 := [.ref 280, UU, UU, .int (0 : Int32), UU, UU]) (by refine ⟨Or.inr rfl, Or.inl rfl, Or.inl rfl, Or.inr rfl, Or.inl rfl, Or.inl rfl, trivial⟩) ?_
              refine qmd_list_L150_ok d hd _ (fun M34 r Mz hs => ?_) _ (0 : Int32) _ _ _ hs
              · refine Rc.goL mt_1238 3 (f2 := (190, [.ref 280, UU, UU, .int (0 : Int32), .int (0 : Int32), UU], [], gm M34)) (b := true) rfl rfl ?_
                refine Rc.less (ls2 := [.ref 280, UU, UU, .int (0 : Int32), .int (0 : Int32), UU]) (by refine ⟨Or.inr rfl, Or.inl rfl, Or.inl rfl, Or.inr rfl, Or.inr rfl, Or.inl rfl, trivial⟩) ?_
                refine qmd_list_L190_ok d hd _ (fun M45 r Mz hs => ?_) _ (0 : Int32) (0 : Int32) _ _ _ hs
                · obtain ⟨hb46, hs⟩ := ck_some hs
                  obtain ⟨hb46_0, hb46⟩ := and_t hb46
                  refine Rc.goL mt_1238 6 (f2 := (317, [.ref 280, UU, UU, UU, UU, UU], [], gm (wI M45 297 (Int32.toNatClampNeg (M45.1 280 27)) (M45.1 280 20)))) (b := (ib 10 (M45.1 280 27) && true)) rfl (and_i hb46_0 rfl) ?_
                  refine Rc.goL mt_1238 5 (f2 := (327, [.ref 280, UU, UU, UU, UU, UU], [], gm (wI (wI M45 297 (Int32.toNatClampNeg (M45.1 280 27)) (M45.1 280 20)) 280 27 ((M45.1 280 27) + (1 : Int32))))) (b := true) rfl rfl ?_
                  refine Rc.goL mt_1238 3 (f2 := (333, [.ref 280, UU, UU, UU, UU, UU], [.int (((M45.1 280 27) + (1 : Int32)) - (1 : Int32))], gm (wI (wI M45 297 (Int32.toNatClampNeg (M45.1 280 27)) (M45.1 280 20)) 280 27 ((M45.1 280 27) + (1 : Int32))))) (b := true) rfl rfl ?_
                  obtain ⟨e1, e2⟩ := some_p hs; subst e1; subst e2
                  exact Rc.ret (v := some (.int (((M45.1 280 27) + (1 : Int32)) - (1 : Int32)))) rfl rfl
