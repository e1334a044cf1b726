def qfr_dozensMade_L6 : Nat → Int32 → Int32 → Int32 → Int32 → Int32 → SM → Option (Int32 × SM)
  | 0, _, _, _, _, _, _ => none
  | n + 1, x1, x2, x3, x4, x5, M =>
    if x5 < (M.1 179 3) then
    (ob (qen_knownAt x5 x2 (M.1 179 0) M) (fun r1 M2 =>
      ob (qtn_masterOf x5 M2) (fun r4 M5 =>
      if r4 = x1 then
      (ob (qen_at r1 (2 : Int32) M5) (fun r7 M8 =>
        if r7 = x3 then
        (ob (qen_at r1 (3 : Int32) M8) (fun r10 M11 =>
          qfr_dozensMade_L6 n x1 x2 x3 (x4 + r10) (x5 + (1 : Int32)) M11)) else
        (qfr_dozensMade_L6 n x1 x2 x3 x4 (x5 + (1 : Int32)) M8))) else
      (qfr_dozensMade_L6 n x1 x2 x3 x4 (x5 + (1 : Int32)) M5)))) else
    (some (x4, M))
def qfr_dozensMade (x1 : Int32) (x2 : Int32) (x3 : Int32) (M : SM) : Option (Int32 × SM) :=
  qfr_dozensMade_L6 FU x1 x2 x3 (0 : Int32) (0 : Int32) M
theorem mt_1141 : MT 1141 K_1141 LN_11 := ⟨rfl, rfl, by decide +kernel⟩
theorem okm_1141 : OKm 1141 := ⟨⟨vE_1141, okL_11, by decide +kernel⟩, by decide +kernel, by decide +kernel, by decide +kernel⟩
set_option maxRecDepth 20000 in
theorem qfr_dozensMade_L6_ok (d : Nat) (hd : 4 ≤ d + 1) : ∀ (n : Nat) (x1 : Int32) (x2 : Int32) (x3 : Int32) (x4 : Int32) (x5 : Int32) (M : SM) (r : Int32) (Mz : SM), qfr_dozensMade_L6 n x1 x2 x3 x4 x5 M = some (r, Mz) → Rc (d + 1) 1141 (6, [.ref 0, .int x1, .int x2, .int x3, .int x4, .int x5, UU], [], gm M) (some (.int r), gm Mz) := by
  intro n
  induction n with
  | zero => intro x1 x2 x3 x4 x5 M r Mz hs; cases hs
  | succ n ih =>
    intro x1 x2 x3 x4 x5 M r Mz hs
    rw [qfr_dozensMade_L6] at hs
    by_cases h15 : x5 < (M.1 179 3)
    · rw [if_pos h15] at hs
      refine Rc.goL mt_1141 4 (f2 := (if x5 < (M.1 179 3) then 18 else 85, [.ref 0, .int x1, .int x2, .int x3, .int x4, .int x5, UU], [], gm M)) (b := true) rfl rfl ?_
      rw [if_pos h15]
      refine Rc.goL mt_1141 6 (f2 := (32, [.ref 0, .int x1, .int x2, .int x3, .int x4, .int x5, UU], [.int (M.1 179 0), .int x2, .int x5, .ref 210], gm M)) (b := true) rfl rfl ?_
      obtain ⟨r1, M2, he3, hs⟩ := ob_some hs
      refine Rc.callV (i := 211) (mid' := 206) (av := [.int x5, .int x2, .int (M.1 179 0)]) (rest := []) (v := some (.int r1)) (M1 := gm M2) (a := 210) rfl rfl rfl cw_206 rfl (Nat.le_of_ble_eq_true rfl) rfl (Nat.le_of_ble_eq_true rfl) (qen_knownAt_ok _ (by omega) he3) ?_
      refine Rc.goL mt_1141 3 (f2 := (43, [.ref 0, .int x1, .int x2, .int x3, .int x4, .int x5, .int r1], [.int x5, .ref 179], gm M2)) (b := true) rfl rfl ?_
      obtain ⟨r4, M5, he6, hs⟩ := ob_some hs
      refine Rc.callV (i := 214) (mid' := 1018) (av := [.int x5]) (rest := []) (v := some (.int r4)) (M1 := gm M5) (a := 179) rfl rfl rfl cw_1018 rfl (Nat.le_of_ble_eq_true rfl) rfl (Nat.le_of_ble_eq_true rfl) (qtn_masterOf_ok _ (by omega) he6) ?_
      by_cases h14 : r4 = x1
      · rw [if_pos h14] at hs
        refine Rc.goL mt_1141 1 (f2 := (if r4 = x1 then 50 else 79, [.ref 0, .int x1, .int x2, .int x3, .int x4, .int x5, .int r1], [], gm M5)) (b := true) rfl rfl ?_
        rw [if_pos h14]
        refine Rc.goL mt_1141 3 (f2 := (57, [.ref 0, .int x1, .int x2, .int x3, .int x4, .int x5, .int r1], [.int (2 : Int32), .int r1, .ref 210], gm M5)) (b := true) rfl rfl ?_
        obtain ⟨r7, M8, he9, hs⟩ := ob_some hs
        refine Rc.callV (i := 265) (mid' := 205) (av := [.int r1, .int (2 : Int32)]) (rest := []) (v := some (.int r7)) (M1 := gm M8) (a := 210) rfl rfl rfl cw_205 rfl (Nat.le_of_ble_eq_true rfl) rfl (Nat.le_of_ble_eq_true rfl) (qen_at_ok _ (by omega) he9) ?_
        by_cases h13 : r7 = x3
        · rw [if_pos h13] at hs
          refine Rc.goL mt_1141 1 (f2 := (if r7 = x3 then 64 else 79, [.ref 0, .int x1, .int x2, .int x3, .int x4, .int x5, .int r1], [], gm M8)) (b := true) rfl rfl ?_
          rw [if_pos h13]
          refine Rc.goL mt_1141 4 (f2 := (73, [.ref 0, .int x1, .int x2, .int x3, .int x4, .int x5, .int r1], [.int (3 : Int32), .int r1, .ref 210, .int x4], gm M8)) (b := true) rfl rfl ?_
          obtain ⟨r10, M11, he12, hs⟩ := ob_some hs
          refine Rc.callV (i := 265) (mid' := 205) (av := [.int r1, .int (3 : Int32)]) (rest := [.int x4]) (v := some (.int r10)) (M1 := gm M11) (a := 210) rfl rfl rfl cw_205 rfl (Nat.le_of_ble_eq_true rfl) rfl (Nat.le_of_ble_eq_true rfl) (qen_at_ok _ (by omega) he12) ?_
          refine Rc.goL mt_1141 1 (f2 := (79, [.ref 0, .int x1, .int x2, .int x3, .int (x4 + r10), .int x5, .int r1], [], gm M11)) (b := true) rfl rfl ?_
          refine Rc.goL mt_1141 1 (f2 := (6, [.ref 0, .int x1, .int x2, .int x3, .int (x4 + r10), .int (x5 + (1 : Int32)), .int r1], [], gm M11)) (b := true) rfl rfl ?_
          refine Rc.less (ls2 := [.ref 0, .int x1, .int x2, .int x3, .int (x4 + r10), .int (x5 + (1 : Int32)), UU]) (by refine ⟨Or.inr rfl, Or.inr rfl, Or.inr rfl, Or.inr rfl, Or.inr rfl, Or.inr rfl, Or.inl rfl, trivial⟩) ?_
          exact ih x1 x2 x3 (x4 + r10) (x5 + (1 : Int32)) _ _ _ hs
        · rw [if_neg h13] at hs
          refine Rc.goL mt_1141 1 (f2 := (if r7 = x3 then 64 else 79, [.ref 0, .int x1, .int x2, .int x3, .int x4, .int x5, .int r1], [], gm M8)) (b := true) rfl rfl ?_
          rw [if_neg h13]
          refine Rc.goL mt_1141 1 (f2 := (6, [.ref 0, .int x1, .int x2, .int x3, .int x4, .int (x5 + (1 : Int32)), .int r1], [], gm M8)) (b := true) rfl rfl ?_
          refine Rc.less (ls2 := [.ref 0, .int x1, .int x2, .int x3, .int x4, .int (x5 + (1 : Int32)), UU]) (by refine ⟨Or.inr rfl, Or.inr rfl, Or.inr rfl, Or.inr rfl, Or.inr rfl, Or.inr rfl, Or.inl rfl, trivial⟩) ?_
          exact ih x1 x2 x3 x4 (x5 + (1 : Int32)) _ _ _ hs
      · rw [if_neg h14] at hs
        refine Rc.goL mt_1141 1 (f2 := (if r4 = x1 then 50 else 79, [.ref 0, .int x1, .int x2, .int x3, .int x4, .int x5, .int r1], [], gm M5)) (b := true) rfl rfl ?_
        rw [if_neg h14]
        refine Rc.goL mt_1141 1 (f2 := (6, [.ref 0, .int x1, .int x2, .int x3, .int x4, .int (x5 + (1 : Int32)), .int r1], [], gm M5)) (b := true) rfl rfl ?_
        refine Rc.less (ls2 := [.ref 0, .int x1, .int x2, .int x3, .int x4, .int (x5 + (1 : Int32)), UU]) (by refine ⟨Or.inr rfl, Or.inr rfl, Or.inr rfl, Or.inr rfl, Or.inr rfl, Or.inr rfl, Or.inl rfl, trivial⟩) ?_
        exact ih x1 x2 x3 x4 (x5 + (1 : Int32)) _ _ _ hs
    · rw [if_neg h15] at hs
      refine Rc.goL mt_1141 4 (f2 := (if x5 < (M.1 179 3) then 18 else 85, [.ref 0, .int x1, .int x2, .int x3, .int x4, .int x5, UU], [], gm M)) (b := true) rfl rfl ?_
      rw [if_neg h15]
      refine Rc.goL mt_1141 0 (f2 := (87, [.ref 0, .int x1, .int x2, .int x3, .int x4, .int x5, UU], [.int x4], gm M)) (b := true) rfl rfl ?_
      obtain ⟨e1, e2⟩ := some_p hs; subst e1; subst e2
      exact Rc.ret (v := some (.int x4)) rfl rfl
set_option maxRecDepth 20000 in
theorem qfr_dozensMade_ok (d : Nat) (hd : 4 ≤ d) {x1 : Int32} {x2 : Int32} {x3 : Int32} {M : SM} {r : Int32} {Mz : SM} (hs : qfr_dozensMade x1 x2 x3 M = some (r, Mz)) : Ex d 1141 [.ref 0, .int x1, .int x2, .int x3] (gm M) (some (.int r), gm Mz) := by
  obtain ⟨d, rfl⟩ : ∃ d0, d = d0 + 1 := ⟨d - 1, by omega⟩
  refine Ex.of okm_1141 (by omega) (Nat.le_of_ble_eq_true rfl) ?_
  show Rc (d + 1) 1141 (0, [.ref 0, .int x1, .int x2, .int x3, UU, UU, UU], [], gm M) _
  unfold qfr_dozensMade at hs
  refine Rc.goL mt_1141 3 (f2 := (6, [.ref 0, .int x1, .int x2, .int x3, .int (0 : Int32), .int (0 : Int32), UU], [], gm M)) (b := true) rfl rfl ?_
  refine Rc.less (ls2 := [.ref 0, .int x1, .int x2, .int x3, .int (0 : Int32), .int (0 : Int32), UU]) (by refine ⟨Or.inr rfl, Or.inr rfl, Or.inr rfl, Or.inr rfl, Or.inr rfl, Or.inr rfl, Or.inl rfl, trivial⟩) ?_
  exact qfr_dozensMade_L6_ok d hd _ x1 x2 x3 (0 : Int32) (0 : Int32) _ _ _ hs
def qfr_differs_L47 (k94 : Int32 → Int32 → Int32 → Int32 → Int32 → SM → Option (Int32 × SM)) (k116 : Int32 → Int32 → Int32 → Int32 → SM → Option (Int32 × SM)) : Nat → Int32 → Int32 → Int32 → Int32 → Int32 → SM → Option (Int32 × SM)
  | 0, _, _, _, _, _, _ => none
  | n + 1, x1, x3, x4, x5, x6, M =>
    if x6 < (10 : Int32) then
    (ob (qbk_dozens x1 x5 x6 M) (fun r7 M8 =>
      ob (qfr_dozensMade x1 x5 x6 M8) (fun r10 M11 =>
      if r7 = r10 then
      (qfr_differs_L47 k94 k116 n x1 x3 x4 x5 (x6 + (1 : Int32)) M11) else
      (if x4 = 0 then
        (k94 x3 x5 x6 r7 r10 M11) else
        (qfr_differs_L47 k94 k116 n x1 x3 (x4 + (-1 : Int32)) x5 (x6 + (1 : Int32)) M11))))) else
    (k116 x1 x3 x4 x5 M)
def qfr_differs_L32 (k94 : Int32 → Int32 → Int32 → Int32 → Int32 → SM → Option (Int32 × SM)) : Nat → Int32 → Int32 → Int32 → Int32 → SM → Option (Int32 × SM)
  | 0, _, _, _, _, _ => none
  | n + 1, x1, x3, x4, x5, M =>
    if (M.1 179 0) < x5 then
    (some ((-1 : Int32), M)) else
    (qfr_differs_L47 (fun y3_16 y5_17 y6_18 y7_19 y8_20 M21 =>
      k94 y3_16 y5_17 y6_18 y7_19 y8_20 M21) (fun y1_22 y3_23 y4_24 y5_25 M26 =>
      qfr_differs_L32 k94 n y1_22 y3_23 y4_24 (y5_25 + (1 : Int32)) M26) FU x1 x3 x4 x5 (0 : Int32) M)
def qfr_differs (x1 : Int32) (x2 : Int32) (x3 : Int32) (M : SM) : Option (Int32 × SM) :=
  ob (qtn_isBagman x1 M) (fun r1 M2 =>
  if r1 = 0 then
  (some ((-1 : Int32), M2)) else
  (if x2 < 0 then
    (some ((-1 : Int32), M2)) else
    (ob (qfr_within x3 (0 : Int32) (3 : Int32) M2) (fun r4 M5 =>
      if r4 = 0 then
      (some ((-1 : Int32), M5)) else
      (qfr_differs_L32 (fun y3_28 y5_29 y6_30 y7_31 y8_32 M33 =>
        ob (qfr_chosen y3_28 y5_29 y6_30 y7_31 y8_32 M33) (fun r34 M35 =>
          some (r34, M35))) FU x1 x3 x2 (0 : Int32) M5)))))
theorem mt_1118 : MT 1118 K_1118 LN_11 := ⟨rfl, rfl, by decide +kernel⟩
theorem okm_1118 : OKm 1118 := ⟨⟨vE_1118, okL_11, by decide +kernel⟩, by decide +kernel, by decide +kernel, by decide +kernel⟩
set_option maxRecDepth 20000 in
theorem qfr_differs_L47_ok (d : Nat) (hd : 5 ≤ d + 1) (k94 : Int32 → Int32 → Int32 → Int32 → Int32 → SM → Option (Int32 × SM)) (k116 : Int32 → Int32 → Int32 → Int32 → SM → Option (Int32 × SM)) (hk94 : ∀ (y3 : Int32) (y5 : Int32) (y6 : Int32) (y7 : Int32) (y8 : Int32) (M : SM) (r : Int32) (Mz : SM), k94 y3 y5 y6 y7 y8 M = some (r, Mz) → Rc (d + 1) 1118 (94, [UU, UU, UU, .int y3, UU, .int y5, .int y6, .int y7, .int y8], [], gm M) (some (.int r), gm Mz)) (hk116 : ∀ (y1 : Int32) (y3 : Int32) (y4 : Int32) (y5 : Int32) (M : SM) (r : Int32) (Mz : SM), k116 y1 y3 y4 y5 M = some (r, Mz) → Rc (d + 1) 1118 (116, [.ref 0, .int y1, UU, .int y3, .int y4, .int y5, UU, UU, UU], [], gm M) (some (.int r), gm Mz)) : ∀ (n : Nat) (x1 : Int32) (x3 : Int32) (x4 : Int32) (x5 : Int32) (x6 : Int32) (M : SM) (r : Int32) (Mz : SM), qfr_differs_L47 k94 k116 n x1 x3 x4 x5 x6 M = some (r, Mz) → Rc (d + 1) 1118 (47, [.ref 0, .int x1, UU, .int x3, .int x4, .int x5, .int x6, UU, UU], [], gm M) (some (.int r), gm Mz) := by
  intro n
  induction n with
  | zero => intro x1 x3 x4 x5 x6 M r Mz hs; cases hs
  | succ n ih =>
    intro x1 x3 x4 x5 x6 M r Mz hs
    rw [qfr_differs_L47] at hs
    by_cases h15 : x6 < (10 : Int32)
    · rw [if_pos h15] at hs
      refine Rc.goL mt_1118 2 (f2 := (if x6 < (10 : Int32) then 54 else 116, [.ref 0, .int x1, UU, .int x3, .int x4, .int x5, .int x6, UU, UU], [], gm M)) (b := true) rfl rfl ?_
      rw [if_pos h15]
      refine Rc.goL mt_1118 4 (f2 := (63, [.ref 0, .int x1, UU, .int x3, .int x4, .int x5, .int x6, UU, UU], [.int x6, .int x5, .int x1, .ref 238], gm M)) (b := true) rfl rfl ?_
      obtain ⟨r7, M8, he9, hs⟩ := ob_some hs
      refine Rc.callV (i := 274) (mid' := 3) (av := [.int x1, .int x5, .int x6]) (rest := []) (v := some (.int r7)) (M1 := gm M8) (a := 238) rfl rfl rfl cw_3 rfl (Nat.le_of_ble_eq_true rfl) rfl (Nat.le_of_ble_eq_true rfl) (qbk_dozens_ok _ (by omega) he9) ?_
      refine Rc.goL mt_1118 4 (f2 := (74, [.ref 0, .int x1, UU, .int x3, .int x4, .int x5, .int x6, .int r7, UU], [.int x6, .int x5, .int x1, .ref 0], gm M8)) (b := true) rfl rfl ?_
      obtain ⟨r10, M11, he12, hs⟩ := ob_some hs
      refine Rc.callV (i := 277) (mid' := 1141) (av := [.int x1, .int x5, .int x6]) (rest := []) (v := some (.int r10)) (M1 := gm M11) (a := 0) rfl rfl rfl cw_1141 rfl (Nat.le_of_ble_eq_true rfl) rfl (Nat.le_of_ble_eq_true rfl) (qfr_dozensMade_ok _ (by omega) he12) ?_
      by_cases h14 : r7 = r10
      · rw [if_pos h14] at hs
        refine Rc.goL mt_1118 3 (f2 := (if r7 = r10 then 86 else 89, [.ref 0, .int x1, UU, .int x3, .int x4, .int x5, .int x6, .int r7, .int r10], [], gm M11)) (b := true) rfl rfl ?_
        rw [if_pos h14]
        refine Rc.goL mt_1118 0 (f2 := (110, [.ref 0, .int x1, UU, .int x3, .int x4, .int x5, .int x6, .int r7, .int r10], [], gm M11)) (b := true) rfl rfl ?_
        refine Rc.goL mt_1118 1 (f2 := (47, [.ref 0, .int x1, UU, .int x3, .int x4, .int x5, .int (x6 + (1 : Int32)), .int r7, .int r10], [], gm M11)) (b := true) rfl rfl ?_
        refine Rc.less (ls2 := [.ref 0, .int x1, UU, .int x3, .int x4, .int x5, .int (x6 + (1 : Int32)), UU, UU]) (by refine ⟨Or.inr rfl, Or.inr rfl, Or.inl rfl, Or.inr rfl, Or.inr rfl, Or.inr rfl, Or.inr rfl, Or.inl rfl, Or.inl rfl, trivial⟩) ?_
        exact ih x1 x3 x4 x5 (x6 + (1 : Int32)) _ _ _ hs
      · rw [if_neg h14] at hs
        refine Rc.goL mt_1118 3 (f2 := (if r7 = r10 then 86 else 89, [.ref 0, .int x1, UU, .int x3, .int x4, .int x5, .int x6, .int r7, .int r10], [], gm M11)) (b := true) rfl rfl ?_
        rw [if_neg h14]
        by_cases h13 : x4 = 0
        · rw [if_pos h13] at hs
          refine Rc.goL mt_1118 1 (f2 := (if x4 = 0 then 94 else 107, [.ref 0, .int x1, UU, .int x3, .int x4, .int x5, .int x6, .int r7, .int r10], [], gm M11)) (b := true) rfl rfl ?_
          rw [if_pos h13]
          refine Rc.less (ls2 := [UU, UU, UU, .int x3, UU, .int x5, .int x6, .int r7, .int r10]) (by refine ⟨Or.inl rfl, Or.inl rfl, Or.inl rfl, Or.inr rfl, Or.inl rfl, Or.inr rfl, Or.inr rfl, Or.inr rfl, Or.inr rfl, trivial⟩) ?_
          exact hk94 x3 x5 x6 r7 r10 _ _ _ hs
        · rw [if_neg h13] at hs
          refine Rc.goL mt_1118 1 (f2 := (if x4 = 0 then 94 else 107, [.ref 0, .int x1, UU, .int x3, .int x4, .int x5, .int x6, .int r7, .int r10], [], gm M11)) (b := true) rfl rfl ?_
          rw [if_neg h13]
          refine Rc.goL mt_1118 0 (f2 := (110, [.ref 0, .int x1, UU, .int x3, .int (x4 + (-1 : Int32)), .int x5, .int x6, .int r7, .int r10], [], gm M11)) (b := true) rfl rfl ?_
          refine Rc.goL mt_1118 1 (f2 := (47, [.ref 0, .int x1, UU, .int x3, .int (x4 + (-1 : Int32)), .int x5, .int (x6 + (1 : Int32)), .int r7, .int r10], [], gm M11)) (b := true) rfl rfl ?_
          refine Rc.less (ls2 := [.ref 0, .int x1, UU, .int x3, .int (x4 + (-1 : Int32)), .int x5, .int (x6 + (1 : Int32)), UU, UU]) (by refine ⟨Or.inr rfl, Or.inr rfl, Or.inl rfl, Or.inr rfl, Or.inr rfl, Or.inr rfl, Or.inr rfl, Or.inl rfl, Or.inl rfl, trivial⟩) ?_
          exact ih x1 x3 (x4 + (-1 : Int32)) x5 (x6 + (1 : Int32)) _ _ _ hs
    · rw [if_neg h15] at hs
      refine Rc.goL mt_1118 2 (f2 := (if x6 < (10 : Int32) then 54 else 116, [.ref 0, .int x1, UU, .int x3, .int x4, .int x5, .int x6, UU, UU], [], gm M)) (b := true) rfl rfl ?_
      rw [if_neg h15]
      refine Rc.less (ls2 := [.ref 0, .int x1, UU, .int x3, .int x4, .int x5, UU, UU, UU]) (by refine ⟨Or.inr rfl, Or.inr rfl, Or.inl rfl, Or.inr rfl, Or.inr rfl, Or.inr rfl, Or.inl rfl, Or.inl rfl, Or.inl rfl, trivial⟩) ?_
      exact hk116 x1 x3 x4 x5 _ _ _ hs
set_option maxRecDepth 20000 in
theorem qfr_differs_L32_ok (d : Nat) (hd : 5 ≤ d + 1) (k94 : Int32 → Int32 → Int32 → Int32 → Int32 → SM → Option (Int32 × SM)) (hk94 : ∀ (y3 : Int32) (y5 : Int32) (y6 : Int32) (y7 : Int32) (y8 : Int32) (M : SM) (r : Int32) (Mz : SM), k94 y3 y5 y6 y7 y8 M = some (r, Mz) → Rc (d + 1) 1118 (94, [UU, UU, UU, .int y3, UU, .int y5, .int y6, .int y7, .int y8], [], gm M) (some (.int r), gm Mz)) : ∀ (n : Nat) (x1 : Int32) (x3 : Int32) (x4 : Int32) (x5 : Int32) (M : SM) (r : Int32) (Mz : SM), qfr_differs_L32 k94 n x1 x3 x4 x5 M = some (r, Mz) → Rc (d + 1) 1118 (32, [.ref 0, .int x1, UU, .int x3, .int x4, .int x5, UU, UU, UU], [], gm M) (some (.int r), gm Mz) := by
  intro n
  induction n with
  | zero => intro x1 x3 x4 x5 M r Mz hs; cases hs
  | succ n ih =>
    intro x1 x3 x4 x5 M r Mz hs
    rw [qfr_differs_L32] at hs
    by_cases h27 : (M.1 179 0) < x5
    · rw [if_pos h27] at hs
      refine Rc.goL mt_1118 4 (f2 := (if (M.1 179 0) < x5 then 122 else 44, [.ref 0, .int x1, UU, .int x3, .int x4, .int x5, UU, UU, UU], [], gm M)) (b := true) rfl rfl ?_
      rw [if_pos h27]
      refine Rc.goL mt_1118 0 (f2 := (123, [.ref 0, .int x1, UU, .int x3, .int x4, .int x5, UU, UU, UU], [.int (-1 : Int32)], gm M)) (b := true) rfl rfl ?_
      obtain ⟨e1, e2⟩ := some_p hs; subst e1; subst e2
      exact Rc.ret (v := some (.int (-1 : Int32))) rfl rfl
    · rw [if_neg h27] at hs
      refine Rc.goL mt_1118 4 (f2 := (if (M.1 179 0) < x5 then 122 else 44, [.ref 0, .int x1, UU, .int x3, .int x4, .int x5, UU, UU, UU], [], gm M)) (b := true) rfl rfl ?_
      rw [if_neg h27]
      refine Rc.goL mt_1118 1 (f2 := (47, [.ref 0, .int x1, UU, .int x3, .int x4, .int x5, .int (0 : Int32), UU, UU], [], gm M)) (b := true) rfl rfl ?_
      refine Rc.less (ls2 := [.ref 0, .int x1, UU, .int x3, .int x4, .int x5, .int (0 : Int32), UU, UU]) (by refine ⟨Or.inr rfl, Or.inr rfl, Or.inl rfl, Or.inr rfl, Or.inr rfl, Or.inr rfl, Or.inr rfl, Or.inl rfl, Or.inl rfl, trivial⟩) ?_
      refine qfr_differs_L47_ok d hd _ _ (fun y3_16 y5_17 y6_18 y7_19 y8_20 M21 r Mz hs => ?_) (fun y1_22 y3_23 y4_24 y5_25 M26 r Mz hs => ?_) _ x1 x3 x4 x5 (0 : Int32) _ _ _ hs
      · refine Rc.less (ls2 := [UU, UU, UU, .int y3_16, UU, .int y5_17, .int y6_18, .int y7_19, .int y8_20]) (by refine ⟨Or.inl rfl, Or.inl rfl, Or.inl rfl, Or.inr rfl, Or.inl rfl, Or.inr rfl, Or.inr rfl, Or.inr rfl, Or.inr rfl, trivial⟩) ?_
        exact hk94 y3_16 y5_17 y6_18 y7_19 y8_20 _ _ _ hs
      · refine Rc.goL mt_1118 1 (f2 := (32, [.ref 0, .int y1_22, UU, .int y3_23, .int y4_24, .int (y5_25 + (1 : Int32)), UU, UU, UU], [], gm M26)) (b := true) rfl rfl ?_
        refine Rc.less (ls2 := [.ref 0, .int y1_22, UU, .int y3_23, .int y4_24, .int (y5_25 + (1 : Int32)), UU, UU, UU]) (by refine ⟨Or.inr rfl, Or.inr rfl, Or.inl rfl, Or.inr rfl, Or.inr rfl, Or.inr rfl, Or.inl rfl, Or.inl rfl, Or.inl rfl, trivial⟩) ?_
        exact ih y1_22 y3_23 y4_24 (y5_25 + (1 : Int32)) _ _ _ hs
set_option maxRecDepth 20000 in
theorem qfr_differs_ok (d : Nat) (hd : 5 ≤ d) {x1 : Int32} {x2 : Int32} {x3 : Int32} {M : SM} {r : Int32} {Mz : SM} (hs : qfr_differs x1 x2 x3 M = some (r, Mz)) : Ex d 1118 [.ref 0, .int x1, .int x2, .int x3] (gm M) (some (.int r), gm Mz) := by
  obtain ⟨d, rfl⟩ : ∃ d0, d = d0 + 1 := ⟨d - 1, by omega⟩
  refine Ex.of okm_1118 (by omega) (Nat.le_of_ble_eq_true rfl) ?_
  show Rc (d + 1) 1118 (0, [.ref 0, .int x1, .int x2, .int x3, UU, UU, UU, UU, UU], [], gm M) _
  unfold qfr_differs at hs
  refine Rc.goL mt_1118 2 (f2 := (5, [.ref 0, .int x1, .int x2, .int x3, UU, UU, UU, UU, UU], [.int x1, .ref 179], gm M)) (b := true) rfl rfl ?_
  obtain ⟨r1, M2, he3, hs⟩ := ob_some hs
  refine Rc.callV (i := 268) (mid' := 1006) (av := [.int x1]) (rest := []) (v := some (.int r1)) (M1 := gm M2) (a := 179) rfl rfl rfl cw_1006 rfl (Nat.le_of_ble_eq_true rfl) rfl (Nat.le_of_ble_eq_true rfl) (qtn_isBagman_ok _ (by omega) he3) ?_
  by_cases h39 : r1 = 0
  · rw [if_pos h39] at hs
    refine Rc.goL mt_1118 0 (f2 := (if r1 = 0 then 24 else 11, [.ref 0, .int x1, .int x2, .int x3, UU, UU, UU, UU, UU], [], gm M2)) (b := true) rfl rfl ?_
    rw [if_pos h39]
    refine Rc.goL mt_1118 0 (f2 := (25, [.ref 0, .int x1, .int x2, .int x3, UU, UU, UU, UU, UU], [.int (-1 : Int32)], gm M2)) (b := true) rfl rfl ?_
    obtain ⟨e1, e2⟩ := some_p hs; subst e1; subst e2
    exact Rc.ret (v := some (.int (-1 : Int32))) rfl rfl
  · rw [if_neg h39] at hs
    refine Rc.goL mt_1118 0 (f2 := (if r1 = 0 then 24 else 11, [.ref 0, .int x1, .int x2, .int x3, UU, UU, UU, UU, UU], [], gm M2)) (b := true) rfl rfl ?_
    rw [if_neg h39]
    by_cases h38 : x2 < 0
    · rw [if_pos h38] at hs
      refine Rc.goL mt_1118 1 (f2 := (if x2 < 0 then 24 else 15, [.ref 0, .int x1, .int x2, .int x3, UU, UU, UU, UU, UU], [], gm M2)) (b := true) rfl rfl ?_
      rw [if_pos h38]
      refine Rc.goL mt_1118 0 (f2 := (25, [.ref 0, .int x1, .int x2, .int x3, UU, UU, UU, UU, UU], [.int (-1 : Int32)], gm M2)) (b := true) rfl rfl ?_
      obtain ⟨e1, e2⟩ := some_p hs; subst e1; subst e2
      exact Rc.ret (v := some (.int (-1 : Int32))) rfl rfl
    · rw [if_neg h38] at hs
      refine Rc.goL mt_1118 1 (f2 := (if x2 < 0 then 24 else 15, [.ref 0, .int x1, .int x2, .int x3, UU, UU, UU, UU, UU], [], gm M2)) (b := true) rfl rfl ?_
      rw [if_neg h38]
      refine Rc.goL mt_1118 2 (f2 := (18, [.ref 0, .int x1, .int x2, .int x3, UU, UU, UU, UU, UU], [.int (3 : Int32), .int (0 : Int32), .int x3], gm M2)) (b := true) rfl rfl ?_
      obtain ⟨r4, M5, he6, hs⟩ := ob_some hs
      refine Rc.callS (i := 96) (mid' := 1137) (av := [.int x3, .int (0 : Int32), .int (3 : Int32)]) (rest := []) (v := some (.int r4)) (M1 := gm M5) rfl (Or.inl rfl) rfl cw_1137 rfl (Nat.le_of_ble_eq_true rfl) (qfr_within_ok _ (by omega) he6) ?_
      by_cases h37 : r4 = 0
      · rw [if_pos h37] at hs
        refine Rc.goL mt_1118 0 (f2 := (if r4 = 0 then 24 else 26, [.ref 0, .int x1, .int x2, .int x3, UU, UU, UU, UU, UU], [], gm M5)) (b := true) rfl rfl ?_
        rw [if_pos h37]
        refine Rc.goL mt_1118 0 (f2 := (25, [.ref 0, .int x1, .int x2, .int x3, UU, UU, UU, UU, UU], [.int (-1 : Int32)], gm M5)) (b := true) rfl rfl ?_
        obtain ⟨e1, e2⟩ := some_p hs; subst e1; subst e2
        exact Rc.ret (v := some (.int (-1 : Int32))) rfl rfl
      · rw [if_neg h37] at hs
        refine Rc.goL mt_1118 0 (f2 := (if r4 = 0 then 24 else 26, [.ref 0, .int x1, .int x2, .int x3, UU, UU, UU, UU, UU], [], gm M5)) (b := true) rfl rfl ?_
        rw [if_neg h37]
        refine Rc.goL mt_1118 3 (f2 := (32, [.ref 0, .int x1, .int x2, .int x3, .int x2, .int (0 : Int32), UU, UU, UU], [], gm M5)) (b := true) rfl rfl ?_
        refine Rc.less (ls2 := [.ref 0, .int x1, UU, .int x3, .int x2, .int (0 : Int32), UU, UU, UU]) (by refine ⟨Or.inr rfl, Or.inr rfl, Or.inl rfl, Or.inr rfl, Or.inr rfl, Or.inr rfl, Or.inl rfl, Or.inl rfl, Or.inl rfl, trivial⟩) ?_
        refine qfr_differs_L32_ok d hd _ (fun y3_28 y5_29 y6_30 y7_31 y8_32 M33 r Mz hs => ?_) _ x1 x3 x2 (0 : Int32) _ _ _ hs
        · refine Rc.goL mt_1118 4 (f2 := (103, [UU, UU, UU, .int y3_28, UU, .int y5_29, .int y6_30, .int y7_31, .int y8_32], [.int y8_32, .int y7_31, .int y6_30, .int y5_29, .int y3_28], gm M33)) (b := true) rfl rfl ?_
          obtain ⟨r34, M35, he36, hs⟩ := ob_some hs
          refine Rc.callS (i := 280) (mid' := 1139) (av := [.int y3_28, .int y5_29, .int y6_30, .int y7_31, .int y8_32]) (rest := []) (v := some (.int r34)) (M1 := gm M35) rfl (Or.inl rfl) rfl cw_1139 rfl (Nat.le_of_ble_eq_true rfl) (qfr_chosen_ok _ (by omega) he36) ?_
          obtain ⟨e1, e2⟩ := some_p hs; subst e1; subst e2
          exact Rc.ret (v := some (.int r34)) rfl rfl
def qfr_idleIfNothingNow (x1 : Int32) (M : SM) : Option (Int32 × SM) :=
  if ((M.1 179 0) - (1 : Int32)) < 0 then
  (some ((1 : Int32), M)) else
  (ob (qtn_holderAt x1 ((M.1 179 0) - (1 : Int32)) M) (fun r1 M2 =>
    ob (qtn_holderAt x1 (M2.1 179 0) M2) (fun r4 M5 =>
    if r1 = r4 then
    (ob (qfr_idleWeeks x1 ((M.1 179 0) - (1 : Int32)) (M5.1 179 0) M5) (fun r7 M8 =>
      some (((1 : Int32) + r7), M8))) else
    (some ((1 : Int32), M5)))))
theorem mt_1143 : MT 1143 K_1143 LN_11 := ⟨rfl, rfl, by decide +kernel⟩
theorem okm_1143 : OKm 1143 := ⟨⟨vE_1143, okL_11, by decide +kernel⟩, by decide +kernel, by decide +kernel, by decide +kernel⟩
set_option maxRecDepth 20000 in
theorem qfr_idleIfNothingNow_ok (d : Nat) (hd : 5 ≤ d) {x1 : Int32} {M : SM} {r : Int32} {Mz : SM} (hs : qfr_idleIfNothingNow x1 M = some (r, Mz)) : Ex d 1143 [.ref 0, .int x1] (gm M) (some (.int r), gm Mz) := by
  obtain ⟨d, rfl⟩ : ∃ d0, d = d0 + 1 := ⟨d - 1, by omega⟩
  refine Ex.of okm_1143 (by omega) (Nat.le_of_ble_eq_true rfl) ?_
  show Rc (d + 1) 1143 (0, [.ref 0, .int x1, UU], [], gm M) _
  unfold qfr_idleIfNothingNow at hs
  refine Rc.goL mt_1143 6 (f2 := (11, [.ref 0, .int x1, .int ((M.1 179 0) - (1 : Int32))], [.int ((M.1 179 0) - (1 : Int32))], gm M)) (b := true) rfl rfl ?_
  by_cases h11 : ((M.1 179 0) - (1 : Int32)) < 0
  · rw [if_pos h11] at hs
    refine Rc.goL mt_1143 0 (f2 := (if ((M.1 179 0) - (1 : Int32)) < 0 then 41 else 14, [.ref 0, .int x1, .int ((M.1 179 0) - (1 : Int32))], [], gm M)) (b := true) rfl rfl ?_
    rw [if_pos h11]
    refine Rc.goL mt_1143 0 (f2 := (42, [.ref 0, .int x1, .int ((M.1 179 0) - (1 : Int32))], [.int (1 : Int32)], gm M)) (b := true) rfl rfl ?_
    obtain ⟨e1, e2⟩ := some_p hs; subst e1; subst e2
    exact Rc.ret (v := some (.int (1 : Int32))) rfl rfl
  · rw [if_neg h11] at hs
    refine Rc.goL mt_1143 0 (f2 := (if ((M.1 179 0) - (1 : Int32)) < 0 then 41 else 14, [.ref 0, .int x1, .int ((M.1 179 0) - (1 : Int32))], [], gm M)) (b := true) rfl rfl ?_
    rw [if_neg h11]
    refine Rc.goL mt_1143 3 (f2 := (20, [.ref 0, .int x1, .int ((M.1 179 0) - (1 : Int32))], [.int ((M.1 179 0) - (1 : Int32)), .int x1, .ref 179], gm M)) (b := true) rfl rfl ?_
    obtain ⟨r1, M2, he3, hs⟩ := ob_some hs
    refine Rc.callV (i := 119) (mid' := 1014) (av := [.int x1, .int ((M.1 179 0) - (1 : Int32))]) (rest := []) (v := some (.int r1)) (M1 := gm M2) (a := 179) rfl rfl rfl cw_1014 rfl (Nat.le_of_ble_eq_true rfl) rfl (Nat.le_of_ble_eq_true rfl) (qtn_holderAt_ok _ (by omega) he3) ?_
    refine Rc.goL mt_1143 5 (f2 := (35, [.ref 0, .int x1, .int ((M.1 179 0) - (1 : Int32))], [.int (M2.1 179 0), .int x1, .ref 179, .int r1], gm M2)) (b := true) rfl rfl ?_
    obtain ⟨r4, M5, he6, hs⟩ := ob_some hs
    refine Rc.callV (i := 119) (mid' := 1014) (av := [.int x1, .int (M2.1 179 0)]) (rest := [.int r1]) (v := some (.int r4)) (M1 := gm M5) (a := 179) rfl rfl rfl cw_1014 rfl (Nat.le_of_ble_eq_true rfl) rfl (Nat.le_of_ble_eq_true rfl) (qtn_holderAt_ok _ (by omega) he6) ?_
    by_cases h10 : r1 = r4
    · rw [if_pos h10] at hs
      refine Rc.goL mt_1143 0 (f2 := (if r1 = r4 then 43 else 41, [.ref 0, .int x1, .int ((M.1 179 0) - (1 : Int32))], [], gm M5)) (b := true) rfl rfl ?_
      rw [if_pos h10]
      refine Rc.goL mt_1143 6 (f2 := (54, [.ref 0, .int x1, .int ((M.1 179 0) - (1 : Int32))], [.int (M5.1 179 0), .int ((M.1 179 0) - (1 : Int32)), .int x1, .ref 0, .int (1 : Int32)], gm M5)) (b := true) rfl rfl ?_
      obtain ⟨r7, M8, he9, hs⟩ := ob_some hs
      refine Rc.callV (i := 208) (mid' := 1142) (av := [.int x1, .int ((M.1 179 0) - (1 : Int32)), .int (M5.1 179 0)]) (rest := [.int (1 : Int32)]) (v := some (.int r7)) (M1 := gm M8) (a := 0) rfl rfl rfl cw_1142 rfl (Nat.le_of_ble_eq_true rfl) rfl (Nat.le_of_ble_eq_true rfl) (qfr_idleWeeks_ok _ (by omega) he9) ?_
      refine Rc.goL mt_1143 0 (f2 := (58, [.ref 0, .int x1, .int ((M.1 179 0) - (1 : Int32))], [.int ((1 : Int32) + r7)], gm M8)) (b := true) rfl rfl ?_
      obtain ⟨e1, e2⟩ := some_p hs; subst e1; subst e2
      exact Rc.ret (v := some (.int ((1 : Int32) + r7))) rfl rfl
    · rw [if_neg h10] at hs
      refine Rc.goL mt_1143 0 (f2 := (if r1 = r4 then 43 else 41, [.ref 0, .int x1, .int ((M.1 179 0) - (1 : Int32))], [], gm M5)) (b := true) rfl rfl ?_
      rw [if_neg h10]
      refine Rc.goL mt_1143 0 (f2 := (42, [.ref 0, .int x1, .int ((M.1 179 0) - (1 : Int32))], [.int (1 : Int32)], gm M5)) (b := true) rfl rfl ?_
      obtain ⟨e1, e2⟩ := some_p hs; subst e1; subst e2
      exact Rc.ret (v := some (.int (1 : Int32))) rfl rfl
def qfr_fillGains_L122 (k257 : Int32 → Option Nat → Int32 → SM → Option (Unit × SM)) : Nat → Int32 → Option Nat → Int32 → Int32 → SM → Option (Unit × SM)
  | 0, _, _, _, _, _ => none
  | n + 1, x1, x2, x3, x4, M =>
    if (24 : Int32) < x4 then
    (k257 x1 x2 x3 M) else
    (ob (qpr_setFact (1 : Int32) x4 M) (fun _ M19 =>
      ob (qpr_setFact (3 : Int32) (x4 * (M19.1 244 4)) M19) (fun _ M22 =>
      ob (qpr_setFact (4 : Int32) (x4 * (M22.1 244 5)) M22) (fun _ M25 =>
      jn (fun (x1_28 : Int32) (x2_29 : Option Nat) (x3_30 : Int32) (x4_31 : Int32) (t32 : Int32) (M33 : SM) =>
        ob (qpr_setFact (7 : Int32) t32 M33) (fun _ M34 =>
          ob (qpr_reckonLetters x2_29 M34) (fun _ M37 =>
          ob (qtn_isOwn x3_30 M37) (fun r40 M41 =>
          ob (qpr_boundWorths x1_28 r40 M41) (fun _ M43 =>
          ob (qpr_netWages M43) (fun r46 M47 =>
          ob (qod_setGain x4_31 (((Int32.toInt64 x4_31) * (Int32.toInt64 (M43.1 244 6))) - r46) M47) (fun _ M49 =>
          qfr_fillGains_L122 k257 n x1_28 x2_29 x3_30 (x4_31 + (1 : Int32)) M49))))))) (fun j52 =>
      if 0 < x4 then
      (j52 x1 x2 x3 x4 (0 : Int32) M25) else
      (ob (qfr_idleIfNothingNow x3 M25) (fun r53 M54 =>
        j52 x1 x2 x3 x4 r53 M54)))))))
def qfr_fillGains_L41 : Nat → Int32 → Option Nat → Int32 → SM → Option (Unit × SM)
  | 0, _, _, _, _ => none
  | n + 1, x1, x2, x3, M =>
    if x3 < (M.1 179 3) then
    (if (M.1 244 7) < (10 : Int32) then
      (ob (qtn_masterOf x3 M) (fun r7 M8 =>
        if r7 = (M8.1 244 1) then
        (ob (qtn_holderAt x3 x1 M8) (fun r10 M11 =>
          if r10 = (-1 : Int32) then
          (qfr_fillGains_L41 n x1 x2 (x3 + (1 : Int32)) M11) else
          (ob (qfr_setFactsOfFrame x3 x1 M11) (fun _ M13 =>
            ob (qpr_setFact (2 : Int32) (M13.1 244 2) M13) (fun _ M16 =>
            qfr_fillGains_L122 (fun y1_58 y2_59 y3_60 M61 =>
            ob (qod_addFrame y3_60 M61) (fun _ M62 =>
              qfr_fillGains_L41 n y1_58 y2_59 (y3_60 + (1 : Int32)) M62)) FU x1 x2 x3 (0 : Int32) M16))))) else
        (qfr_fillGains_L41 n x1 x2 (x3 + (1 : Int32)) M8))) else
      (some ((), M))) else
    (some ((), M))
def qfr_fillGains (M : SM) : Option (Unit × SM) :=
  ob (qtn_listIn (M.1 244 1) (M.1 179 0) M) (fun r1 M2 =>
  ob (qpr_listAt r1 M2) (fun r4 M5 =>
  qfr_fillGains_L41 FU (M.1 179 0) r4 (0 : Int32) (wI M5 244 7 (0 : Int32))))
theorem mt_1146 : MT 1146 K_1146 LN_11 := ⟨rfl, rfl, by decide +kernel⟩
theorem okm_1146 : OKm 1146 := ⟨⟨vE_1146, okL_11, by decide +kernel⟩, by decide +kernel, by decide +kernel, by decide +kernel⟩
set_option maxRecDepth 20000 in
theorem qfr_fillGains_L122_ok (d : Nat) (hd : 6 ≤ d + 1) (k257 : Int32 → Option Nat → Int32 → SM → Option (Unit × SM)) (hk257 : ∀ (y1 : Int32) (y2 : Option Nat) (y3 : Int32) (M : SM) (r : Unit) (Mz : SM), k257 y1 y2 y3 M = some (r, Mz) → Rc (d + 1) 1146 (257, [.ref 0, .int y1, rv y2, .int y3, UU], [], gm M) (none, gm Mz)) : ∀ (n : Nat) (x1 : Int32) (x2 : Option Nat) (x3 : Int32) (x4 : Int32) (M : SM) (r : Unit) (Mz : SM), qfr_fillGains_L122 k257 n x1 x2 x3 x4 M = some (r, Mz) → Rc (d + 1) 1146 (122, [.ref 0, .int x1, rv x2, .int x3, .int x4], [], gm M) (none, gm Mz) := by
  intro n
  induction n with
  | zero => intro x1 x2 x3 x4 M r Mz hs; cases hs
  | succ n ih =>
    intro x1 x2 x3 x4 M r Mz hs
    rw [qfr_fillGains_L122] at hs
    by_cases h57 : (24 : Int32) < x4
    · rw [if_pos h57] at hs
      refine Rc.goL mt_1146 2 (f2 := (if (24 : Int32) < x4 then 257 else 129, [.ref 0, .int x1, rv x2, .int x3, .int x4], [], gm M)) (b := true) (by cases x2 <;> rfl) rfl ?_
      rw [if_pos h57]
      refine Rc.less (ls2 := [.ref 0, .int x1, rv x2, .int x3, UU]) (by refine ⟨Or.inr rfl, Or.inr rfl, Or.inr rfl, Or.inr rfl, Or.inl rfl, trivial⟩) ?_
      exact hk257 x1 x2 x3 _ _ _ hs
    · rw [if_neg h57] at hs
      refine Rc.goL mt_1146 2 (f2 := (if (24 : Int32) < x4 then 257 else 129, [.ref 0, .int x1, rv x2, .int x3, .int x4], [], gm M)) (b := true) (by cases x2 <;> rfl) rfl ?_
      rw [if_neg h57]
      refine Rc.goL mt_1146 3 (f2 := (136, [.ref 0, .int x1, rv x2, .int x3, .int x4], [.int x4, .int (1 : Int32), .ref 12], gm M)) (b := true) (by cases x2 <;> rfl) rfl ?_
      obtain ⟨u21, M19, he20, hs⟩ := ob_some hs
      refine Rc.callV (i := 185) (mid' := 607) (av := [.int (1 : Int32), .int x4]) (rest := []) (v := none) (M1 := gm M19) (a := 12) rfl rfl rfl cw_607 rfl (Nat.le_of_ble_eq_true rfl) rfl (Nat.le_of_ble_eq_true rfl) (qpr_setFact_ok _ (by omega) he20) ?_
      refine Rc.goL mt_1146 6 (f2 := (153, [.ref 0, .int x1, rv x2, .int x3, .int x4], [.int (M19.1 244 4), .int x4, .int (3 : Int32), .ref 12], gm M19)) (b := true) (by cases x2 <;> rfl) rfl ?_
      refine Rc.goL mt_1146 0 (f2 := (154, [.ref 0, .int x1, rv x2, .int x3, .int x4], [.int (x4 * (M19.1 244 4)), .int (3 : Int32), .ref 12], gm M19)) (b := true) (by cases x2 <;> rfl) rfl ?_
      obtain ⟨u24, M22, he23, hs⟩ := ob_some hs
      refine Rc.callV (i := 185) (mid' := 607) (av := [.int (3 : Int32), .int (x4 * (M19.1 244 4))]) (rest := []) (v := none) (M1 := gm M22) (a := 12) rfl rfl rfl cw_607 rfl (Nat.le_of_ble_eq_true rfl) rfl (Nat.le_of_ble_eq_true rfl) (qpr_setFact_ok _ (by omega) he23) ?_
      refine Rc.goL mt_1146 6 (f2 := (171, [.ref 0, .int x1, rv x2, .int x3, .int x4], [.int (M22.1 244 5), .int x4, .int (4 : Int32), .ref 12], gm M22)) (b := true) (by cases x2 <;> rfl) rfl ?_
      refine Rc.goL mt_1146 0 (f2 := (172, [.ref 0, .int x1, rv x2, .int x3, .int x4], [.int (x4 * (M22.1 244 5)), .int (4 : Int32), .ref 12], gm M22)) (b := true) (by cases x2 <;> rfl) rfl ?_
      obtain ⟨u27, M25, he26, hs⟩ := ob_some hs
      refine Rc.callV (i := 185) (mid' := 607) (av := [.int (4 : Int32), .int (x4 * (M22.1 244 5))]) (rest := []) (v := none) (M1 := gm M25) (a := 12) rfl rfl rfl cw_607 rfl (Nat.le_of_ble_eq_true rfl) rfl (Nat.le_of_ble_eq_true rfl) (qpr_setFact_ok _ (by omega) he26) ?_
      refine jn_e (P := fun (j : Int32 → Option Nat → Int32 → Int32 → Int32 → SM → Option (Unit × SM)) => ∀ (x1_28 : Int32) (x2_29 : Option Nat) (x3_30 : Int32) (x4_31 : Int32) (t32 : Int32) (M33 : SM) (r : Unit) (Mz : SM), j x1_28 x2_29 x3_30 x4_31 t32 M33 = some (r, Mz) → Rc (d + 1) 1146 (195, [.ref 0, .int x1_28, rv x2_29, .int x3_30, .int x4_31], [.int t32, .int (7 : Int32), .ref 12], gm M33) (none, gm Mz)) hs ?_ (fun j52 Hj52 hs => ?_)
      · intro x1_28 x2_29 x3_30 x4_31 t32 M33 r Mz hs
        try dsimp only at hs
        obtain ⟨u36, M34, he35, hs⟩ := ob_some hs
        refine Rc.callV (i := 185) (mid' := 607) (av := [.int (7 : Int32), .int t32]) (rest := []) (v := none) (M1 := gm M34) (a := 12) rfl rfl rfl cw_607 rfl (Nat.le_of_ble_eq_true rfl) rfl (Nat.le_of_ble_eq_true rfl) (qpr_setFact_ok _ (by omega) he35) ?_
        refine Rc.goL mt_1146 2 (f2 := (203, [.ref 0, .int x1_28, rv x2_29, .int x3_30, .int x4_31], [rv x2_29, .ref 12], gm M34)) (b := true) (by cases x2_29 <;> rfl) rfl ?_
        obtain ⟨u39, M37, he38, hs⟩ := ob_some hs
        refine Rc.callV (i := 188) (mid' := 610) (av := [rv x2_29]) (rest := []) (v := none) (M1 := gm M37) (a := 12) rfl rfl rfl cw_610 rfl (Nat.le_of_ble_eq_true rfl) rfl (Nat.le_of_ble_eq_true rfl) (qpr_reckonLetters_ok _ (by omega) he38) ?_
        refine Rc.goL mt_1146 5 (f2 := (216, [.ref 0, .int x1_28, rv x2_29, .int x3_30, .int x4_31], [.int x3_30, .ref 179, .int x1_28, .ref 12], gm M37)) (b := true) (by cases x2_29 <;> rfl) rfl ?_
        obtain ⟨r40, M41, he42, hs⟩ := ob_some hs
        refine Rc.callV (i := 400) (mid' := 1007) (av := [.int x3_30]) (rest := [.int x1_28, .ref 12]) (v := some (.int r40)) (M1 := gm M41) (a := 179) rfl rfl rfl cw_1007 rfl (Nat.le_of_ble_eq_true rfl) rfl (Nat.le_of_ble_eq_true rfl) (qtn_isOwn_ok _ (by omega) he42) ?_
        obtain ⟨u45, M43, he44, hs⟩ := ob_some hs
        refine Rc.callV (i := 403) (mid' := 611) (av := [.int x1_28, .int r40]) (rest := []) (v := none) (M1 := gm M43) (a := 12) rfl rfl rfl cw_611 rfl (Nat.le_of_ble_eq_true rfl) rfl (Nat.le_of_ble_eq_true rfl) (qpr_boundWorths_ok _ (by omega) he44) ?_
        refine Rc.goL mt_1146 6 (f2 := (235, [.ref 0, .int x1_28, rv x2_29, .int x3_30, .int x4_31], [.ref 244, .long (Int32.toInt64 x4_31), .int x4_31, .ref 244], gm M43)) (b := true) (by cases x2_29 <;> rfl) rfl ?_
        refine Rc.goL mt_1146 4 (f2 := (244, [.ref 0, .int x1_28, rv x2_29, .int x3_30, .int x4_31], [.ref 12, .long ((Int32.toInt64 x4_31) * (Int32.toInt64 (M43.1 244 6))), .int x4_31, .ref 244], gm M43)) (b := true) (by cases x2_29 <;> rfl) rfl ?_
        obtain ⟨r46, M47, he48, hs⟩ := ob_some hs
        refine Rc.callV (i := 234) (mid' := 617) (av := []) (rest := [.long ((Int32.toInt64 x4_31) * (Int32.toInt64 (M43.1 244 6))), .int x4_31, .ref 244]) (v := some (.long r46)) (M1 := gm M47) (a := 12) rfl rfl rfl cw_617 rfl (Nat.le_of_ble_eq_true rfl) rfl (Nat.le_of_ble_eq_true rfl) (qpr_netWages_ok _ (by omega) he48) ?_
        refine Rc.goL mt_1146 0 (f2 := (248, [.ref 0, .int x1_28, rv x2_29, .int x3_30, .int x4_31], [.long (((Int32.toInt64 x4_31) * (Int32.toInt64 (M43.1 244 6))) - r46), .int x4_31, .ref 244], gm M47)) (b := true) (by cases x2_29 <;> rfl) rfl ?_
        obtain ⟨u51, M49, he50, hs⟩ := ob_some hs
        refine Rc.callV (i := 410) (mid' := 502) (av := [.int x4_31, .long (((Int32.toInt64 x4_31) * (Int32.toInt64 (M43.1 244 6))) - r46)]) (rest := []) (v := none) (M1 := gm M49) (a := 244) rfl rfl rfl cw_502 rfl (Nat.le_of_ble_eq_true rfl) rfl (Nat.le_of_ble_eq_true rfl) (qod_setGain_ok _ (by omega) he50) ?_
        refine Rc.goL mt_1146 1 (f2 := (122, [.ref 0, .int x1_28, rv x2_29, .int x3_30, .int (x4_31 + (1 : Int32))], [], gm M49)) (b := true) (by cases x2_29 <;> rfl) rfl ?_
        refine Rc.less (ls2 := [.ref 0, .int x1_28, rv x2_29, .int x3_30, .int (x4_31 + (1 : Int32))]) (by refine ⟨Or.inr rfl, Or.inr rfl, Or.inr rfl, Or.inr rfl, Or.inr rfl, trivial⟩) ?_
        exact ih x1_28 x2_29 x3_30 (x4_31 + (1 : Int32)) _ _ _ hs
      by_cases h56 : 0 < x4
      · rw [if_pos h56] at hs
        refine Rc.goL mt_1146 4 (f2 := (if 0 < x4 then 186 else 190, [.ref 0, .int x1, rv x2, .int x3, .int x4], [.int (7 : Int32), .ref 12], gm M25)) (b := true) (by cases x2 <;> rfl) rfl ?_
        rw [if_pos h56]
        refine Rc.goL mt_1146 1 (f2 := (195, [.ref 0, .int x1, rv x2, .int x3, .int x4], [.int (0 : Int32), .int (7 : Int32), .ref 12], gm M25)) (b := true) (by cases x2 <;> rfl) rfl ?_
        refine Rc.less (ls2 := [.ref 0, .int x1, rv x2, .int x3, .int x4]) (by refine ⟨Or.inr rfl, Or.inr rfl, Or.inr rfl, Or.inr rfl, Or.inr rfl, trivial⟩) ?_
        exact Hj52 x1 x2 x3 x4 (0 : Int32) _ _ _ hs
      · rw [if_neg h56] at hs
        refine Rc.goL mt_1146 4 (f2 := (if 0 < x4 then 186 else 190, [.ref 0, .int x1, rv x2, .int x3, .int x4], [.int (7 : Int32), .ref 12], gm M25)) (b := true) (by cases x2 <;> rfl) rfl ?_
        rw [if_neg h56]
        refine Rc.goL mt_1146 1 (f2 := (192, [.ref 0, .int x1, rv x2, .int x3, .int x4], [.int x3, .ref 0, .int (7 : Int32), .ref 12], gm M25)) (b := true) (by cases x2 <;> rfl) rfl ?_
        obtain ⟨r53, M54, he55, hs⟩ := ob_some hs
        refine Rc.callV (i := 407) (mid' := 1143) (av := [.int x3]) (rest := [.int (7 : Int32), .ref 12]) (v := some (.int r53)) (M1 := gm M54) (a := 0) rfl rfl rfl cw_1143 rfl (Nat.le_of_ble_eq_true rfl) rfl (Nat.le_of_ble_eq_true rfl) (qfr_idleIfNothingNow_ok _ (by omega) he55) ?_
        refine Rc.less (ls2 := [.ref 0, .int x1, rv x2, .int x3, .int x4]) (by refine ⟨Or.inr rfl, Or.inr rfl, Or.inr rfl, Or.inr rfl, Or.inr rfl, trivial⟩) ?_
        exact Hj52 x1 x2 x3 x4 r53 _ _ _ hs
set_option maxRecDepth 20000 in
theorem qfr_fillGains_L41_ok (d : Nat) (hd : 6 ≤ d + 1) : ∀ (n : Nat) (x1 : Int32) (x2 : Option Nat) (x3 : Int32) (M : SM) (r : Unit) (Mz : SM), qfr_fillGains_L41 n x1 x2 x3 M = some (r, Mz) → Rc (d + 1) 1146 (41, [.ref 0, .int x1, rv x2, .int x3, UU], [], gm M) (none, gm Mz) := by
  intro n
  induction n with
  | zero => intro x1 x2 x3 M r Mz hs; cases hs
  | succ n ih =>
    intro x1 x2 x3 M r Mz hs
    rw [qfr_fillGains_L41] at hs
    by_cases h68 : x3 < (M.1 179 3)
    · rw [if_pos h68] at hs
      refine Rc.goL mt_1146 4 (f2 := (if x3 < (M.1 179 3) then 52 else 271, [.ref 0, .int x1, rv x2, .int x3, UU], [], gm M)) (b := true) (by cases x2 <;> rfl) rfl ?_
      rw [if_pos h68]
      by_cases h67 : (M.1 244 7) < (10 : Int32)
      · rw [if_pos h67] at hs
        refine Rc.goL mt_1146 4 (f2 := (if (M.1 244 7) < (10 : Int32) then 64 else 271, [.ref 0, .int x1, rv x2, .int x3, UU], [], gm M)) (b := true) (by cases x2 <;> rfl) rfl ?_
        rw [if_pos h67]
        refine Rc.goL mt_1146 2 (f2 := (69, [.ref 0, .int x1, rv x2, .int x3, UU], [.int x3, .ref 179], gm M)) (b := true) (by cases x2 <;> rfl) rfl ?_
        obtain ⟨r7, M8, he9, hs⟩ := ob_some hs
        refine Rc.callV (i := 214) (mid' := 1018) (av := [.int x3]) (rest := []) (v := some (.int r7)) (M1 := gm M8) (a := 179) rfl rfl rfl cw_1018 rfl (Nat.le_of_ble_eq_true rfl) rfl (Nat.le_of_ble_eq_true rfl) (qtn_masterOf_ok _ (by omega) he9) ?_
        by_cases h66 : r7 = (M8.1 244 1)
        · rw [if_pos h66] at hs
          refine Rc.goL mt_1146 3 (f2 := (if r7 = (M8.1 244 1) then 82 else 265, [.ref 0, .int x1, rv x2, .int x3, UU], [], gm M8)) (b := true) (by cases x2 <;> rfl) rfl ?_
          rw [if_pos h66]
          refine Rc.goL mt_1146 3 (f2 := (88, [.ref 0, .int x1, rv x2, .int x3, UU], [.int x1, .int x3, .ref 179], gm M8)) (b := true) (by cases x2 <;> rfl) rfl ?_
          obtain ⟨r10, M11, he12, hs⟩ := ob_some hs
          refine Rc.callV (i := 119) (mid' := 1014) (av := [.int x3, .int x1]) (rest := []) (v := some (.int r10)) (M1 := gm M11) (a := 179) rfl rfl rfl cw_1014 rfl (Nat.le_of_ble_eq_true rfl) rfl (Nat.le_of_ble_eq_true rfl) (qtn_holderAt_ok _ (by omega) he12) ?_
          by_cases h65 : r10 = (-1 : Int32)
          · rw [if_pos h65] at hs
            refine Rc.goL mt_1146 1 (f2 := (if r10 = (-1 : Int32) then 95 else 98, [.ref 0, .int x1, rv x2, .int x3, UU], [], gm M11)) (b := true) (by cases x2 <;> rfl) rfl ?_
            rw [if_pos h65]
            refine Rc.goL mt_1146 0 (f2 := (265, [.ref 0, .int x1, rv x2, .int x3, UU], [], gm M11)) (b := true) (by cases x2 <;> rfl) rfl ?_
            refine Rc.goL mt_1146 1 (f2 := (41, [.ref 0, .int x1, rv x2, .int (x3 + (1 : Int32)), UU], [], gm M11)) (b := true) (by cases x2 <;> rfl) rfl ?_
            refine Rc.less (ls2 := [.ref 0, .int x1, rv x2, .int (x3 + (1 : Int32)), UU]) (by refine ⟨Or.inr rfl, Or.inr rfl, Or.inr rfl, Or.inr rfl, Or.inl rfl, trivial⟩) ?_
            exact ih x1 x2 (x3 + (1 : Int32)) _ _ _ hs
          · rw [if_neg h65] at hs
            refine Rc.goL mt_1146 1 (f2 := (if r10 = (-1 : Int32) then 95 else 98, [.ref 0, .int x1, rv x2, .int x3, UU], [], gm M11)) (b := true) (by cases x2 <;> rfl) rfl ?_
            rw [if_neg h65]
            refine Rc.goL mt_1146 2 (f2 := (101, [.ref 0, .int x1, rv x2, .int x3, UU], [.int x1, .int x3, .ref 0], gm M11)) (b := true) (by cases x2 <;> rfl) rfl ?_
            obtain ⟨u15, M13, he14, hs⟩ := ob_some hs
            refine Rc.callV (i := 397) (mid' := 1144) (av := [.int x3, .int x1]) (rest := []) (v := none) (M1 := gm M13) (a := 0) rfl rfl rfl cw_1144 rfl (Nat.le_of_ble_eq_true rfl) rfl (Nat.le_of_ble_eq_true rfl) (qfr_setFactsOfFrame_ok _ (by omega) he14) ?_
            refine Rc.goL mt_1146 5 (f2 := (116, [.ref 0, .int x1, rv x2, .int x3, UU], [.int (M13.1 244 2), .int (2 : Int32), .ref 12], gm M13)) (b := true) (by cases x2 <;> rfl) rfl ?_
            obtain ⟨u18, M16, he17, hs⟩ := ob_some hs
            refine Rc.callV (i := 185) (mid' := 607) (av := [.int (2 : Int32), .int (M13.1 244 2)]) (rest := []) (v := none) (M1 := gm M16) (a := 12) rfl rfl rfl cw_607 rfl (Nat.le_of_ble_eq_true rfl) rfl (Nat.le_of_ble_eq_true rfl) (qpr_setFact_ok _ (by omega) he17) ?_
            refine Rc.goL mt_1146 1 (f2 := (122, [.ref 0, .int x1, rv x2, .int x3, .int (0 : Int32)], [], gm M16)) (b := true) (by cases x2 <;> rfl) rfl ?_
            refine Rc.less (ls2 := [.ref 0, .int x1, rv x2, .int x3, .int (0 : Int32)]) (by refine ⟨Or.inr rfl, Or.inr rfl, Or.inr rfl, Or.inr rfl, Or.inr rfl, trivial⟩) ?_
            refine qfr_fillGains_L122_ok d hd _ (fun y1_58 y2_59 y3_60 M61 r Mz hs => ?_) _ x1 x2 x3 (0 : Int32) _ _ _ hs
            · refine Rc.goL mt_1146 2 (f2 := (262, [.ref 0, .int y1_58, rv y2_59, .int y3_60, UU], [.int y3_60, .ref 244], gm M61)) (b := true) (by cases y2_59 <;> rfl) rfl ?_
              obtain ⟨u64, M62, he63, hs⟩ := ob_some hs
              refine Rc.callV (i := 414) (mid' := 503) (av := [.int y3_60]) (rest := []) (v := none) (M1 := gm M62) (a := 244) rfl rfl rfl cw_503 rfl (Nat.le_of_ble_eq_true rfl) rfl (Nat.le_of_ble_eq_true rfl) (qod_addFrame_ok _ (by omega) he63) ?_
              refine Rc.goL mt_1146 1 (f2 := (41, [.ref 0, .int y1_58, rv y2_59, .int (y3_60 + (1 : Int32)), UU], [], gm M62)) (b := true) (by cases y2_59 <;> rfl) rfl ?_
              refine Rc.less (ls2 := [.ref 0, .int y1_58, rv y2_59, .int (y3_60 + (1 : Int32)), UU]) (by refine ⟨Or.inr rfl, Or.inr rfl, Or.inr rfl, Or.inr rfl, Or.inl rfl, trivial⟩) ?_
              exact ih y1_58 y2_59 (y3_60 + (1 : Int32)) _ _ _ hs
        · rw [if_neg h66] at hs
          refine Rc.goL mt_1146 3 (f2 := (if r7 = (M8.1 244 1) then 82 else 265, [.ref 0, .int x1, rv x2, .int x3, UU], [], gm M8)) (b := true) (by cases x2 <;> rfl) rfl ?_
          rw [if_neg h66]
          refine Rc.goL mt_1146 1 (f2 := (41, [.ref 0, .int x1, rv x2, .int (x3 + (1 : Int32)), UU], [], gm M8)) (b := true) (by cases x2 <;> rfl) rfl ?_
          refine Rc.less (ls2 := [.ref 0, .int x1, rv x2, .int (x3 + (1 : Int32)), UU]) (by refine ⟨Or.inr rfl, Or.inr rfl, Or.inr rfl, Or.inr rfl, Or.inl rfl, trivial⟩) ?_
          exact ih x1 x2 (x3 + (1 : Int32)) _ _ _ hs
      · rw [if_neg h67] at hs
        refine Rc.goL mt_1146 4 (f2 := (if (M.1 244 7) < (10 : Int32) then 64 else 271, [.ref 0, .int x1, rv x2, .int x3, UU], [], gm M)) (b := true) (by cases x2 <;> rfl) rfl ?_
        rw [if_neg h67]
        obtain ⟨e1, e2⟩ := some_p hs; subst e1; subst e2
        exact Rc.ret (v := none) rfl rfl
    · rw [if_neg h68] at hs
      refine Rc.goL mt_1146 4 (f2 := (if x3 < (M.1 179 3) then 52 else 271, [.ref 0, .int x1, rv x2, .int x3, UU], [], gm M)) (b := true) (by cases x2 <;> rfl) rfl ?_
      rw [if_neg h68]
      obtain ⟨e1, e2⟩ := some_p hs; subst e1; subst e2
      exact Rc.ret (v := none) rfl rfl
set_option maxRecDepth 20000 in
theorem qfr_fillGains_ok (d : Nat) (hd : 6 ≤ d) {M : SM} {r : Unit} {Mz : SM} (hs : qfr_fillGains M = some (r, Mz)) : Ex d 1146 [.ref 0] (gm M) (none, gm Mz) := by
  obtain ⟨d, rfl⟩ : ∃ d0, d = d0 + 1 := ⟨d - 1, by omega⟩
  refine Ex.of okm_1146 (by omega) (Nat.le_of_ble_eq_true rfl) ?_
  show Rc (d + 1) 1146 (0, [.ref 0, UU, UU, UU, UU], [], gm M) _
  unfold qfr_fillGains at hs
  refine Rc.goL mt_1146 6 (f2 := (13, [.ref 0, .int (M.1 179 0), UU, UU, UU], [.ref 0, .ref 12], gm M)) (b := true) rfl rfl ?_
  refine Rc.goL mt_1146 4 (f2 := (24, [.ref 0, .int (M.1 179 0), UU, UU, UU], [.int (M.1 179 0), .int (M.1 244 1), .ref 179, .ref 12], gm M)) (b := true) rfl rfl ?_
  obtain ⟨r1, M2, he3, hs⟩ := ob_some hs
  refine Rc.callV (i := 176) (mid' := 1015) (av := [.int (M.1 244 1), .int (M.1 179 0)]) (rest := [.ref 12]) (v := some (.int r1)) (M1 := gm M2) (a := 179) rfl rfl rfl cw_1015 rfl (Nat.le_of_ble_eq_true rfl) rfl (Nat.le_of_ble_eq_true rfl) (qtn_listIn_ok _ (by omega) he3) ?_
  obtain ⟨r4, M5, he6, hs⟩ := ob_some hs
  refine Rc.callV (i := 172) (mid' := 605) (av := [.int r1]) (rest := []) (v := some (rv r4)) (M1 := gm M5) (a := 12) rfl rfl rfl cw_605 rfl (Nat.le_of_ble_eq_true rfl) rfl (Nat.le_of_ble_eq_true rfl) (qpr_listAt_ok _ (by omega) he6) ?_
  refine Rc.goL mt_1146 4 (f2 := (39, [.ref 0, .int (M.1 179 0), rv r4, UU, UU], [], gm (wI M5 244 7 (0 : Int32)))) (b := true) (by cases r4 <;> rfl) rfl ?_
  refine Rc.goL mt_1146 1 (f2 := (41, [.ref 0, .int (M.1 179 0), rv r4, .int (0 : Int32), UU], [], gm (wI M5 244 7 (0 : Int32)))) (b := true) (by cases r4 <;> rfl) rfl ?_
  refine Rc.less (ls2 := [.ref 0, .int (M.1 179 0), rv r4, .int (0 : Int32), UU]) (by refine ⟨Or.inr rfl, Or.inr rfl, Or.inr rfl, Or.inr rfl, Or.inl rfl, trivial⟩) ?_
  exact qfr_fillGains_L41_ok d hd _ (M.1 179 0) r4 (0 : Int32) _ _ _ hs
def qfr_spread (x1 : Int32) (x2 : Int32) (x3 : Int32) (x4 : Int32) (x5 : Int32) (x6 : Int32) (M : SM) : Option (Int64 × SM) :=
  ob (qtn_hasMaster x1 M) (fun r1 M2 =>
  if r1 = 0 then
  (some ((-1000000000000 : Int64), M2)) else
  (ob (qfr_within x2 (0 : Int32) (9 : Int32) M2) (fun r4 M5 =>
    if r4 = 0 then
    (some ((-1000000000000 : Int64), M5)) else
    (ob (qfr_within x3 (0 : Int32) (60 : Int32) M5) (fun r7 M8 =>
      if r7 = 0 then
      (some ((-1000000000000 : Int64), M8)) else
      (ob (qfr_within x4 (0 : Int32) (40 : Int32) M8) (fun r10 M11 =>
        if r10 = 0 then
        (some ((-1000000000000 : Int64), M11)) else
        (ob (qfr_within x5 (0 : Int32) (99 : Int32) M11) (fun r13 M14 =>
          if r13 = 0 then
          (some ((-1000000000000 : Int64), M14)) else
          (ob (qfr_within x6 (0 : Int32) (100000 : Int32) M14) (fun r16 M17 =>
            if r16 = 0 then
            (some ((-1000000000000 : Int64), M17)) else
            (ob (qfr_fillGains (wI (wI (wI (wI (wI (wI (wI M17 244 0 (1 : Int32)) 244 1 x1) 244 2 x2) 244 3 x3) 244 4 x4) 244 5 x5) 244 6 x6)) (fun _ M19 =>
              ob (qod_findBest M19) (fun r22 M23 =>
              some (r22, M23)))))))))))))))
theorem mt_1119 : MT 1119 K_1119 LN_11 := ⟨rfl, rfl, by decide +kernel⟩
theorem okm_1119 : OKm 1119 := ⟨⟨vE_1119, okL_11, by decide +kernel⟩, by decide +kernel, by decide +kernel, by decide +kernel⟩
set_option maxRecDepth 20000 in
theorem qfr_spread_ok (d : Nat) (hd : 7 ≤ d) {x1 : Int32} {x2 : Int32} {x3 : Int32} {x4 : Int32} {x5 : Int32} {x6 : Int32} {M : SM} {r : Int64} {Mz : SM} (hs : qfr_spread x1 x2 x3 x4 x5 x6 M = some (r, Mz)) : Ex d 1119 [.ref 0, .int x1, .int x2, .int x3, .int x4, .int x5, .int x6] (gm M) (some (.long r), gm Mz) := by
  obtain ⟨d, rfl⟩ : ∃ d0, d = d0 + 1 := ⟨d - 1, by omega⟩
  refine Ex.of okm_1119 (by omega) (Nat.le_of_ble_eq_true rfl) ?_
  show Rc (d + 1) 1119 (0, [.ref 0, .int x1, .int x2, .int x3, .int x4, .int x5, .int x6], [], gm M) _
  unfold qfr_spread at hs
  refine Rc.goL mt_1119 2 (f2 := (5, [.ref 0, .int x1, .int x2, .int x3, .int x4, .int x5, .int x6], [.int x1, .ref 179], gm M)) (b := true) rfl rfl ?_
  obtain ⟨r1, M2, he3, hs⟩ := ob_some hs
  refine Rc.callV (i := 103) (mid' := 1002) (av := [.int x1]) (rest := []) (v := some (.int r1)) (M1 := gm M2) (a := 179) rfl rfl rfl cw_1002 rfl (Nat.le_of_ble_eq_true rfl) rfl (Nat.le_of_ble_eq_true rfl) (qtn_hasMaster_ok _ (by omega) he3) ?_
  by_cases h30 : r1 = 0
  · rw [if_pos h30] at hs
    refine Rc.goL mt_1119 0 (f2 := (if r1 = 0 then 31 else 11, [.ref 0, .int x1, .int x2, .int x3, .int x4, .int x5, .int x6], [], gm M2)) (b := true) rfl rfl ?_
    rw [if_pos h30]
    refine Rc.goL mt_1119 0 (f2 := (34, [.ref 0, .int x1, .int x2, .int x3, .int x4, .int x5, .int x6], [.long (-1000000000000 : Int64)], gm M2)) (b := true) rfl rfl ?_
    obtain ⟨e1, e2⟩ := some_p hs; subst e1; subst e2
    exact Rc.ret (v := some (.long (-1000000000000 : Int64))) rfl rfl
  · rw [if_neg h30] at hs
    refine Rc.goL mt_1119 0 (f2 := (if r1 = 0 then 31 else 11, [.ref 0, .int x1, .int x2, .int x3, .int x4, .int x5, .int x6], [], gm M2)) (b := true) rfl rfl ?_
    rw [if_neg h30]
    refine Rc.goL mt_1119 2 (f2 := (15, [.ref 0, .int x1, .int x2, .int x3, .int x4, .int x5, .int x6], [.int (9 : Int32), .int (0 : Int32), .int x2], gm M2)) (b := true) rfl rfl ?_
    obtain ⟨r4, M5, he6, hs⟩ := ob_some hs
    refine Rc.callS (i := 96) (mid' := 1137) (av := [.int x2, .int (0 : Int32), .int (9 : Int32)]) (rest := []) (v := some (.int r4)) (M1 := gm M5) rfl (Or.inl rfl) rfl cw_1137 rfl (Nat.le_of_ble_eq_true rfl) (qfr_within_ok _ (by omega) he6) ?_
    by_cases h29 : r4 = 0
    · rw [if_pos h29] at hs
      refine Rc.goL mt_1119 0 (f2 := (if r4 = 0 then 31 else 21, [.ref 0, .int x1, .int x2, .int x3, .int x4, .int x5, .int x6], [], gm M5)) (b := true) rfl rfl ?_
      rw [if_pos h29]
      refine Rc.goL mt_1119 0 (f2 := (34, [.ref 0, .int x1, .int x2, .int x3, .int x4, .int x5, .int x6], [.long (-1000000000000 : Int64)], gm M5)) (b := true) rfl rfl ?_
      obtain ⟨e1, e2⟩ := some_p hs; subst e1; subst e2
      exact Rc.ret (v := some (.long (-1000000000000 : Int64))) rfl rfl
    · rw [if_neg h29] at hs
      refine Rc.goL mt_1119 0 (f2 := (if r4 = 0 then 31 else 21, [.ref 0, .int x1, .int x2, .int x3, .int x4, .int x5, .int x6], [], gm M5)) (b := true) rfl rfl ?_
      rw [if_neg h29]
      refine Rc.goL mt_1119 2 (f2 := (25, [.ref 0, .int x1, .int x2, .int x3, .int x4, .int x5, .int x6], [.int (60 : Int32), .int (0 : Int32), .int x3], gm M5)) (b := true) rfl rfl ?_
      obtain ⟨r7, M8, he9, hs⟩ := ob_some hs
      refine Rc.callS (i := 96) (mid' := 1137) (av := [.int x3, .int (0 : Int32), .int (60 : Int32)]) (rest := []) (v := some (.int r7)) (M1 := gm M8) rfl (Or.inl rfl) rfl cw_1137 rfl (Nat.le_of_ble_eq_true rfl) (qfr_within_ok _ (by omega) he9) ?_
      by_cases h28 : r7 = 0
      · rw [if_pos h28] at hs
        refine Rc.goL mt_1119 0 (f2 := (if r7 = 0 then 31 else 35, [.ref 0, .int x1, .int x2, .int x3, .int x4, .int x5, .int x6], [], gm M8)) (b := true) rfl rfl ?_
        rw [if_pos h28]
        refine Rc.goL mt_1119 0 (f2 := (34, [.ref 0, .int x1, .int x2, .int x3, .int x4, .int x5, .int x6], [.long (-1000000000000 : Int64)], gm M8)) (b := true) rfl rfl ?_
        obtain ⟨e1, e2⟩ := some_p hs; subst e1; subst e2
        exact Rc.ret (v := some (.long (-1000000000000 : Int64))) rfl rfl
      · rw [if_neg h28] at hs
        refine Rc.goL mt_1119 0 (f2 := (if r7 = 0 then 31 else 35, [.ref 0, .int x1, .int x2, .int x3, .int x4, .int x5, .int x6], [], gm M8)) (b := true) rfl rfl ?_
        rw [if_neg h28]
        refine Rc.goL mt_1119 2 (f2 := (40, [.ref 0, .int x1, .int x2, .int x3, .int x4, .int x5, .int x6], [.int (40 : Int32), .int (0 : Int32), .int x4], gm M8)) (b := true) rfl rfl ?_
        obtain ⟨r10, M11, he12, hs⟩ := ob_some hs
        refine Rc.callS (i := 96) (mid' := 1137) (av := [.int x4, .int (0 : Int32), .int (40 : Int32)]) (rest := []) (v := some (.int r10)) (M1 := gm M11) rfl (Or.inl rfl) rfl cw_1137 rfl (Nat.le_of_ble_eq_true rfl) (qfr_within_ok _ (by omega) he12) ?_
        by_cases h27 : r10 = 0
        · rw [if_pos h27] at hs
          refine Rc.goL mt_1119 0 (f2 := (if r10 = 0 then 69 else 46, [.ref 0, .int x1, .int x2, .int x3, .int x4, .int x5, .int x6], [], gm M11)) (b := true) rfl rfl ?_
          rw [if_pos h27]
          refine Rc.goL mt_1119 0 (f2 := (72, [.ref 0, .int x1, .int x2, .int x3, .int x4, .int x5, .int x6], [.long (-1000000000000 : Int64)], gm M11)) (b := true) rfl rfl ?_
          obtain ⟨e1, e2⟩ := some_p hs; subst e1; subst e2
          exact Rc.ret (v := some (.long (-1000000000000 : Int64))) rfl rfl
        · rw [if_neg h27] at hs
          refine Rc.goL mt_1119 0 (f2 := (if r10 = 0 then 69 else 46, [.ref 0, .int x1, .int x2, .int x3, .int x4, .int x5, .int x6], [], gm M11)) (b := true) rfl rfl ?_
          rw [if_neg h27]
          refine Rc.goL mt_1119 2 (f2 := (51, [.ref 0, .int x1, .int x2, .int x3, .int x4, .int x5, .int x6], [.int (99 : Int32), .int (0 : Int32), .int x5], gm M11)) (b := true) rfl rfl ?_
          obtain ⟨r13, M14, he15, hs⟩ := ob_some hs
          refine Rc.callS (i := 96) (mid' := 1137) (av := [.int x5, .int (0 : Int32), .int (99 : Int32)]) (rest := []) (v := some (.int r13)) (M1 := gm M14) rfl (Or.inl rfl) rfl cw_1137 rfl (Nat.le_of_ble_eq_true rfl) (qfr_within_ok _ (by omega) he15) ?_
          by_cases h26 : r13 = 0
          · rw [if_pos h26] at hs
            refine Rc.goL mt_1119 0 (f2 := (if r13 = 0 then 69 else 57, [.ref 0, .int x1, .int x2, .int x3, .int x4, .int x5, .int x6], [], gm M14)) (b := true) rfl rfl ?_
            rw [if_pos h26]
            refine Rc.goL mt_1119 0 (f2 := (72, [.ref 0, .int x1, .int x2, .int x3, .int x4, .int x5, .int x6], [.long (-1000000000000 : Int64)], gm M14)) (b := true) rfl rfl ?_
            obtain ⟨e1, e2⟩ := some_p hs; subst e1; subst e2
            exact Rc.ret (v := some (.long (-1000000000000 : Int64))) rfl rfl
          · rw [if_neg h26] at hs
            refine Rc.goL mt_1119 0 (f2 := (if r13 = 0 then 69 else 57, [.ref 0, .int x1, .int x2, .int x3, .int x4, .int x5, .int x6], [], gm M14)) (b := true) rfl rfl ?_
            rw [if_neg h26]
            refine Rc.goL mt_1119 2 (f2 := (63, [.ref 0, .int x1, .int x2, .int x3, .int x4, .int x5, .int x6], [.int (100000 : Int32), .int (0 : Int32), .int x6], gm M14)) (b := true) rfl rfl ?_
            obtain ⟨r16, M17, he18, hs⟩ := ob_some hs
            refine Rc.callS (i := 96) (mid' := 1137) (av := [.int x6, .int (0 : Int32), .int (100000 : Int32)]) (rest := []) (v := some (.int r16)) (M1 := gm M17) rfl (Or.inl rfl) rfl cw_1137 rfl (Nat.le_of_ble_eq_true rfl) (qfr_within_ok _ (by omega) he18) ?_
            by_cases h25 : r16 = 0
            · rw [if_pos h25] at hs
              refine Rc.goL mt_1119 0 (f2 := (if r16 = 0 then 69 else 73, [.ref 0, .int x1, .int x2, .int x3, .int x4, .int x5, .int x6], [], gm M17)) (b := true) rfl rfl ?_
              rw [if_pos h25]
              refine Rc.goL mt_1119 0 (f2 := (72, [.ref 0, .int x1, .int x2, .int x3, .int x4, .int x5, .int x6], [.long (-1000000000000 : Int64)], gm M17)) (b := true) rfl rfl ?_
              obtain ⟨e1, e2⟩ := some_p hs; subst e1; subst e2
              exact Rc.ret (v := some (.long (-1000000000000 : Int64))) rfl rfl
            · rw [if_neg h25] at hs
              refine Rc.goL mt_1119 0 (f2 := (if r16 = 0 then 69 else 73, [.ref 0, .int x1, .int x2, .int x3, .int x4, .int x5, .int x6], [], gm M17)) (b := true) rfl rfl ?_
              rw [if_neg h25]
              refine Rc.goL mt_1119 3 (f2 := (81, [.ref 0, .int x1, .int x2, .int x3, .int x4, .int x5, .int x6], [], gm (wI M17 244 0 (1 : Int32)))) (b := true) rfl rfl ?_
              refine Rc.goL mt_1119 3 (f2 := (89, [.ref 0, .int x1, .int x2, .int x3, .int x4, .int x5, .int x6], [], gm (wI (wI M17 244 0 (1 : Int32)) 244 1 x1))) (b := true) rfl rfl ?_
              refine Rc.goL mt_1119 3 (f2 := (97, [.ref 0, .int x1, .int x2, .int x3, .int x4, .int x5, .int x6], [], gm (wI (wI (wI M17 244 0 (1 : Int32)) 244 1 x1) 244 2 x2))) (b := true) rfl rfl ?_
              refine Rc.goL mt_1119 3 (f2 := (105, [.ref 0, .int x1, .int x2, .int x3, .int x4, .int x5, .int x6], [], gm (wI (wI (wI (wI M17 244 0 (1 : Int32)) 244 1 x1) 244 2 x2) 244 3 x3))) (b := true) rfl rfl ?_
              refine Rc.goL mt_1119 3 (f2 := (114, [.ref 0, .int x1, .int x2, .int x3, .int x4, .int x5, .int x6], [], gm (wI (wI (wI (wI (wI M17 244 0 (1 : Int32)) 244 1 x1) 244 2 x2) 244 3 x3) 244 4 x4))) (b := true) rfl rfl ?_
              refine Rc.goL mt_1119 3 (f2 := (123, [.ref 0, .int x1, .int x2, .int x3, .int x4, .int x5, .int x6], [], gm (wI (wI (wI (wI (wI (wI M17 244 0 (1 : Int32)) 244 1 x1) 244 2 x2) 244 3 x3) 244 4 x4) 244 5 x5))) (b := true) rfl rfl ?_
              refine Rc.goL mt_1119 3 (f2 := (132, [.ref 0, .int x1, .int x2, .int x3, .int x4, .int x5, .int x6], [], gm (wI (wI (wI (wI (wI (wI (wI M17 244 0 (1 : Int32)) 244 1 x1) 244 2 x2) 244 3 x3) 244 4 x4) 244 5 x5) 244 6 x6))) (b := true) rfl rfl ?_
              refine Rc.goL mt_1119 0 (f2 := (133, [.ref 0, .int x1, .int x2, .int x3, .int x4, .int x5, .int x6], [.ref 0], gm (wI (wI (wI (wI (wI (wI (wI M17 244 0 (1 : Int32)) 244 1 x1) 244 2 x2) 244 3 x3) 244 4 x4) 244 5 x5) 244 6 x6))) (b := true) rfl rfl ?_
              obtain ⟨u21, M19, he20, hs⟩ := ob_some hs
              refine Rc.callV (i := 308) (mid' := 1146) (av := []) (rest := []) (v := none) (M1 := gm M19) (a := 0) rfl rfl rfl cw_1146 rfl (Nat.le_of_ble_eq_true rfl) rfl (Nat.le_of_ble_eq_true rfl) (qfr_fillGains_ok _ (by omega) he20) ?_
              refine Rc.goL mt_1119 1 (f2 := (140, [.ref 0, .int x1, .int x2, .int x3, .int x4, .int x5, .int x6], [.ref 244], gm M19)) (b := true) rfl rfl ?_
              obtain ⟨r22, M23, he24, hs⟩ := ob_some hs
              refine Rc.callV (i := 311) (mid' := 508) (av := []) (rest := []) (v := some (.long r22)) (M1 := gm M23) (a := 244) rfl rfl rfl cw_508 rfl (Nat.le_of_ble_eq_true rfl) rfl (Nat.le_of_ble_eq_true rfl) (qod_findBest_ok _ (by omega) he24) ?_
              obtain ⟨e1, e2⟩ := some_p hs; subst e1; subst e2
              exact Rc.ret (v := some (.long r22)) rfl rfl
def qfr_share (x1 : Int32) (M : SM) : Option (Int32 × SM) :=
  ob (qod_shareOf x1 M) (fun r1 M2 =>
  some (r1, M2))
theorem mt_1120 : MT 1120 K_1120 LN_11 := ⟨rfl, rfl, by decide +kernel⟩
theorem okm_1120 : OKm 1120 := ⟨⟨vE_1120, okL_11, by decide +kernel⟩, by decide +kernel, by decide +kernel, by decide +kernel⟩
set_option maxRecDepth 20000 in
theorem qfr_share_ok (d : Nat) (hd : 2 ≤ d) {x1 : Int32} {M : SM} {r : Int32} {Mz : SM} (hs : qfr_share x1 M = some (r, Mz)) : Ex d 1120 [.ref 0, .int x1] (gm M) (some (.int r), gm Mz) := by
  obtain ⟨d, rfl⟩ : ∃ d0, d = d0 + 1 := ⟨d - 1, by omega⟩
  refine Ex.of okm_1120 (by omega) (Nat.le_of_ble_eq_true rfl) ?_
  show Rc (d + 1) 1120 (0, [.ref 0, .int x1], [], gm M) _
  unfold qfr_share at hs
  refine Rc.goL mt_1120 2 (f2 := (5, [.ref 0, .int x1], [.int x1, .ref 244], gm M)) (b := true) rfl rfl ?_
  obtain ⟨r1, M2, he3, hs⟩ := ob_some hs
  refine Rc.callV (i := 314) (mid' := 511) (av := [.int x1]) (rest := []) (v := some (.int r1)) (M1 := gm M2) (a := 244) rfl rfl rfl cw_511 rfl (Nat.le_of_ble_eq_true rfl) rfl (Nat.le_of_ble_eq_true rfl) (qod_shareOf_ok _ (by omega) he3) ?_
  obtain ⟨e1, e2⟩ := some_p hs; subst e1; subst e2
  exact Rc.ret (v := some (.int r1)) rfl rfl
def qfr_judge (x1 : Int32) (M : SM) : Option (Int64 × SM) :=
  if (M.1 244 0) = 0 then
  (some ((-1000000000000 : Int64), M)) else
  (if x1 < 0 then
    (some ((-1000000000000 : Int64), M)) else
    (if (M.1 1 1) < x1 then
      (some ((-1000000000000 : Int64), M)) else
      (ob (qfr_fillGains M) (fun _ M1 =>
        ob (qod_gainOfRow x1 M1) (fun r4 M5 =>
        ob (qtp_wipe M5) (fun _ M7 =>
        some (r4, M7)))))))
theorem mt_1121 : MT 1121 K_1121 LN_11 := ⟨rfl, rfl, by decide +kernel⟩
theorem okm_1121 : OKm 1121 := ⟨⟨vE_1121, okL_11, by decide +kernel⟩, by decide +kernel, by decide +kernel, by decide +kernel⟩
set_option maxRecDepth 20000 in
theorem qfr_judge_ok (d : Nat) (hd : 7 ≤ d) {x1 : Int32} {M : SM} {r : Int64} {Mz : SM} (hs : qfr_judge x1 M = some (r, Mz)) : Ex d 1121 [.ref 0, .int x1] (gm M) (some (.long r), gm Mz) := by
  obtain ⟨d, rfl⟩ : ∃ d0, d = d0 + 1 := ⟨d - 1, by omega⟩
  refine Ex.of okm_1121 (by omega) (Nat.le_of_ble_eq_true rfl) ?_
  show Rc (d + 1) 1121 (0, [.ref 0, .int x1, UU, UU], [], gm M) _
  unfold qfr_judge at hs
  by_cases h12 : (M.1 244 0) = 0
  · rw [if_pos h12] at hs
    refine Rc.goL mt_1121 3 (f2 := (if (M.1 244 0) = 0 then 25 else 10, [.ref 0, .int x1, UU, UU], [], gm M)) (b := true) rfl rfl ?_
    rw [if_pos h12]
    refine Rc.goL mt_1121 0 (f2 := (28, [.ref 0, .int x1, UU, UU], [.long (-1000000000000 : Int64)], gm M)) (b := true) rfl rfl ?_
    obtain ⟨e1, e2⟩ := some_p hs; subst e1; subst e2
    exact Rc.ret (v := some (.long (-1000000000000 : Int64))) rfl rfl
  · rw [if_neg h12] at hs
    refine Rc.goL mt_1121 3 (f2 := (if (M.1 244 0) = 0 then 25 else 10, [.ref 0, .int x1, UU, UU], [], gm M)) (b := true) rfl rfl ?_
    rw [if_neg h12]
    by_cases h11 : x1 < 0
    · rw [if_pos h11] at hs
      refine Rc.goL mt_1121 1 (f2 := (if x1 < 0 then 25 else 14, [.ref 0, .int x1, UU, UU], [], gm M)) (b := true) rfl rfl ?_
      rw [if_pos h11]
      refine Rc.goL mt_1121 0 (f2 := (28, [.ref 0, .int x1, UU, UU], [.long (-1000000000000 : Int64)], gm M)) (b := true) rfl rfl ?_
      obtain ⟨e1, e2⟩ := some_p hs; subst e1; subst e2
      exact Rc.ret (v := some (.long (-1000000000000 : Int64))) rfl rfl
    · rw [if_neg h11] at hs
      refine Rc.goL mt_1121 1 (f2 := (if x1 < 0 then 25 else 14, [.ref 0, .int x1, UU, UU], [], gm M)) (b := true) rfl rfl ?_
      rw [if_neg h11]
      by_cases h10 : (M.1 1 1) < x1
      · rw [if_pos h10] at hs
        refine Rc.goL mt_1121 4 (f2 := (if (M.1 1 1) < x1 then 25 else 29, [.ref 0, .int x1, UU, UU], [], gm M)) (b := true) rfl rfl ?_
        rw [if_pos h10]
        refine Rc.goL mt_1121 0 (f2 := (28, [.ref 0, .int x1, UU, UU], [.long (-1000000000000 : Int64)], gm M)) (b := true) rfl rfl ?_
        obtain ⟨e1, e2⟩ := some_p hs; subst e1; subst e2
        exact Rc.ret (v := some (.long (-1000000000000 : Int64))) rfl rfl
      · rw [if_neg h10] at hs
        refine Rc.goL mt_1121 4 (f2 := (if (M.1 1 1) < x1 then 25 else 29, [.ref 0, .int x1, UU, UU], [], gm M)) (b := true) rfl rfl ?_
        rw [if_neg h10]
        refine Rc.goL mt_1121 0 (f2 := (30, [.ref 0, .int x1, UU, UU], [.ref 0], gm M)) (b := true) rfl rfl ?_
        obtain ⟨u3, M1, he2, hs⟩ := ob_some hs
        refine Rc.callV (i := 308) (mid' := 1146) (av := []) (rest := []) (v := none) (M1 := gm M1) (a := 0) rfl rfl rfl cw_1146 rfl (Nat.le_of_ble_eq_true rfl) rfl (Nat.le_of_ble_eq_true rfl) (qfr_fillGains_ok _ (by omega) he2) ?_
        refine Rc.goL mt_1121 4 (f2 := (42, [.ref 0, .int x1, UU, UU], [.int x1, .ref 1, .ref 244], gm M1)) (b := true) rfl rfl ?_
        obtain ⟨r4, M5, he6, hs⟩ := ob_some hs
        refine Rc.callV (i := 317) (mid' := 512) (av := [.ref 1, .int x1]) (rest := []) (v := some (.long r4)) (M1 := gm M5) (a := 244) rfl rfl rfl cw_512 rfl (Nat.le_of_ble_eq_true rfl) rfl (Nat.le_of_ble_eq_true rfl) (qod_gainOfRow_ok _ (by omega) he6) ?_
        refine Rc.goL mt_1121 2 (f2 := (50, [.ref 0, .int x1, .long r4, UU], [.ref 1], gm M5)) (b := true) rfl rfl ?_
        obtain ⟨u9, M7, he8, hs⟩ := ob_some hs
        refine Rc.callV (i := 145) (mid' := 906) (av := []) (rest := []) (v := none) (M1 := gm M7) (a := 1) rfl rfl rfl cw_906 rfl (Nat.le_of_ble_eq_true rfl) rfl (Nat.le_of_ble_eq_true rfl) (qtp_wipe_ok _ (by omega) he8) ?_
        refine Rc.goL mt_1121 0 (f2 := (54, [.ref 0, .int x1, .long r4, UU], [.long r4], gm M7)) (b := true) rfl rfl ?_
        obtain ⟨e1, e2⟩ := some_p hs; subst e1; subst e2
        exact Rc.ret (v := some (.long r4)) rfl rfl
def qfr_beside_L89 (k133 : Int32 → Int32 → Int32 → Int32 → Int64 → Int32 → SM → Option (Int64 × SM)) : Nat → Int32 → Int32 → Int32 → Int32 → Int64 → Int32 → Int32 → SM → Option (Int64 × SM)
  | 0, _, _, _, _, _, _, _, _ => none
  | n + 1, x1, x2, x3, x4, x5, x7, x8, M =>
    if x4 < x8 then
    (k133 x1 x2 x3 x4 x5 x7 M) else
    (ob (qfr_reckonWeek x7 x8 (M.1 179 0) x2 M) (fun r11 M12 =>
      if r11 = 0 then
      (qfr_beside_L89 k133 n x1 x2 x3 x4 x5 x7 (x8 + (1 : Int32)) M12) else
      (ob (qpr_netWages M12) (fun r14 M15 =>
        qfr_beside_L89 k133 n x1 x2 x3 x4 (x5 + r14) x7 (x8 + (1 : Int32)) M15))))
def qfr_beside_L58 : Nat → Int32 → Int32 → Int32 → Int32 → Int64 → Int32 → SM → Option (Int64 × SM)
  | 0, _, _, _, _, _, _, _ => none
  | n + 1, x1, x2, x3, x4, x5, x7, M =>
    if x7 < (M.1 179 3) then
    (ob (qtn_masterOf x7 M) (fun r8 M9 =>
      if r8 = x1 then
      (qfr_beside_L89 (fun y1_19 y2_20 y3_21 y4_22 y5_23 y7_24 M25 =>
        qfr_beside_L58 n y1_19 y2_20 y3_21 y4_22 y5_23 (y7_24 + (1 : Int32)) M25) FU x1 x2 x3 x4 x5 x7 x3 M9) else
      (qfr_beside_L58 n x1 x2 x3 x4 x5 (x7 + (1 : Int32)) M9))) else
    (some (x5, M))
def qfr_beside (x1 : Int32) (x2 : Int32) (x3 : Int32) (x4 : Int32) (M : SM) : Option (Int64 × SM) :=
  ob (qtn_hasMaster x1 M) (fun r1 M2 =>
  if r1 = 0 then
  (some ((-1000000000000 : Int64), M2)) else
  (ob (qpr_listAt x2 M2) (fun r4 M5 =>
    om r4 (
    some ((-1000000000000 : Int64), M5)) (fun s7 =>
    if x3 < 0 then
      (some ((-1000000000000 : Int64), M5)) else
      (if x4 < x3 then
        (some ((-1000000000000 : Int64), M5)) else
        (if (M5.1 179 0) < x4 then
          (some ((-1000000000000 : Int64), M5)) else
          (qfr_beside_L58 FU x1 x2 x3 x4 (0 : Int64) (0 : Int32) M5)))))))
theorem mt_1122 : MT 1122 K_1122 LN_11 := ⟨rfl, rfl, by decide +kernel⟩
theorem okm_1122 : OKm 1122 := ⟨⟨vE_1122, okL_11, by decide +kernel⟩, by decide +kernel, by decide +kernel, by decide +kernel⟩
set_option maxRecDepth 20000 in
theorem qfr_beside_L89_ok (d : Nat) (hd : 7 ≤ d + 1) (k133 : Int32 → Int32 → Int32 → Int32 → Int64 → Int32 → SM → Option (Int64 × SM)) (hk133 : ∀ (y1 : Int32) (y2 : Int32) (y3 : Int32) (y4 : Int32) (y5 : Int64) (y7 : Int32) (M : SM) (r : Int64) (Mz : SM), k133 y1 y2 y3 y4 y5 y7 M = some (r, Mz) → Rc (d + 1) 1122 (133, [.ref 0, .int y1, .int y2, .int y3, .int y4, .long y5, UU, .int y7, UU], [], gm M) (some (.long r), gm Mz)) : ∀ (n : Nat) (x1 : Int32) (x2 : Int32) (x3 : Int32) (x4 : Int32) (x5 : Int64) (x7 : Int32) (x8 : Int32) (M : SM) (r : Int64) (Mz : SM), qfr_beside_L89 k133 n x1 x2 x3 x4 x5 x7 x8 M = some (r, Mz) → Rc (d + 1) 1122 (89, [.ref 0, .int x1, .int x2, .int x3, .int x4, .long x5, UU, .int x7, .int x8], [], gm M) (some (.long r), gm Mz) := by
  intro n
  induction n with
  | zero => intro x1 x2 x3 x4 x5 x7 x8 M r Mz hs; cases hs
  | succ n ih =>
    intro x1 x2 x3 x4 x5 x7 x8 M r Mz hs
    rw [qfr_beside_L89] at hs
    by_cases h18 : x4 < x8
    · rw [if_pos h18] at hs
      refine Rc.goL mt_1122 2 (f2 := (if x4 < x8 then 133 else 96, [.ref 0, .int x1, .int x2, .int x3, .int x4, .long x5, UU, .int x7, .int x8], [], gm M)) (b := true) rfl rfl ?_
      rw [if_pos h18]
      refine Rc.less (ls2 := [.ref 0, .int x1, .int x2, .int x3, .int x4, .long x5, UU, .int x7, UU]) (by refine ⟨Or.inr rfl, Or.inr rfl, Or.inr rfl, Or.inr rfl, Or.inr rfl, Or.inr rfl, Or.inl rfl, Or.inr rfl, Or.inl rfl, trivial⟩) ?_
      exact hk133 x1 x2 x3 x4 x5 x7 _ _ _ hs
    · rw [if_neg h18] at hs
      refine Rc.goL mt_1122 2 (f2 := (if x4 < x8 then 133 else 96, [.ref 0, .int x1, .int x2, .int x3, .int x4, .long x5, UU, .int x7, .int x8], [], gm M)) (b := true) rfl rfl ?_
      rw [if_neg h18]
      refine Rc.goL mt_1122 6 (f2 := (109, [.ref 0, .int x1, .int x2, .int x3, .int x4, .long x5, UU, .int x7, .int x8], [.int x2, .int (M.1 179 0), .int x8, .int x7, .ref 0], gm M)) (b := true) rfl rfl ?_
      obtain ⟨r11, M12, he13, hs⟩ := ob_some hs
      refine Rc.callV (i := 217) (mid' := 1145) (av := [.int x7, .int x8, .int (M.1 179 0), .int x2]) (rest := []) (v := some (.int r11)) (M1 := gm M12) (a := 0) rfl rfl rfl cw_1145 rfl (Nat.le_of_ble_eq_true rfl) rfl (Nat.le_of_ble_eq_true rfl) (qfr_reckonWeek_ok _ (by omega) he13) ?_
      by_cases h17 : r11 = 0
      · rw [if_pos h17] at hs
        refine Rc.goL mt_1122 0 (f2 := (if r11 = 0 then 127 else 115, [.ref 0, .int x1, .int x2, .int x3, .int x4, .long x5, UU, .int x7, .int x8], [], gm M12)) (b := true) rfl rfl ?_
        rw [if_pos h17]
        refine Rc.goL mt_1122 1 (f2 := (89, [.ref 0, .int x1, .int x2, .int x3, .int x4, .long x5, UU, .int x7, .int (x8 + (1 : Int32))], [], gm M12)) (b := true) rfl rfl ?_
        refine Rc.less (ls2 := [.ref 0, .int x1, .int x2, .int x3, .int x4, .long x5, UU, .int x7, .int (x8 + (1 : Int32))]) (by refine ⟨Or.inr rfl, Or.inr rfl, Or.inr rfl, Or.inr rfl, Or.inr rfl, Or.inr rfl, Or.inl rfl, Or.inr rfl, Or.inr rfl, trivial⟩) ?_
        exact ih x1 x2 x3 x4 x5 x7 (x8 + (1 : Int32)) _ _ _ hs
      · rw [if_neg h17] at hs
        refine Rc.goL mt_1122 0 (f2 := (if r11 = 0 then 127 else 115, [.ref 0, .int x1, .int x2, .int x3, .int x4, .long x5, UU, .int x7, .int x8], [], gm M12)) (b := true) rfl rfl ?_
        rw [if_neg h17]
        refine Rc.goL mt_1122 2 (f2 := (121, [.ref 0, .int x1, .int x2, .int x3, .int x4, .long x5, UU, .int x7, .int x8], [.ref 12, .long x5], gm M12)) (b := true) rfl rfl ?_
        obtain ⟨r14, M15, he16, hs⟩ := ob_some hs
        refine Rc.callV (i := 234) (mid' := 617) (av := []) (rest := [.long x5]) (v := some (.long r14)) (M1 := gm M15) (a := 12) rfl rfl rfl cw_617 rfl (Nat.le_of_ble_eq_true rfl) rfl (Nat.le_of_ble_eq_true rfl) (qpr_netWages_ok _ (by omega) he16) ?_
        refine Rc.goL mt_1122 1 (f2 := (127, [.ref 0, .int x1, .int x2, .int x3, .int x4, .long (x5 + r14), UU, .int x7, .int x8], [], gm M15)) (b := true) rfl rfl ?_
        refine Rc.goL mt_1122 1 (f2 := (89, [.ref 0, .int x1, .int x2, .int x3, .int x4, .long (x5 + r14), UU, .int x7, .int (x8 + (1 : Int32))], [], gm M15)) (b := true) rfl rfl ?_
        refine Rc.less (ls2 := [.ref 0, .int x1, .int x2, .int x3, .int x4, .long (x5 + r14), UU, .int x7, .int (x8 + (1 : Int32))]) (by refine ⟨Or.inr rfl, Or.inr rfl, Or.inr rfl, Or.inr rfl, Or.inr rfl, Or.inr rfl, Or.inl rfl, Or.inr rfl, Or.inr rfl, trivial⟩) ?_
        exact ih x1 x2 x3 x4 (x5 + r14) x7 (x8 + (1 : Int32)) _ _ _ hs
set_option maxRecDepth 20000 in
theorem qfr_beside_L58_ok (d : Nat) (hd : 7 ≤ d + 1) : ∀ (n : Nat) (x1 : Int32) (x2 : Int32) (x3 : Int32) (x4 : Int32) (x5 : Int64) (x7 : Int32) (M : SM) (r : Int64) (Mz : SM), qfr_beside_L58 n x1 x2 x3 x4 x5 x7 M = some (r, Mz) → Rc (d + 1) 1122 (58, [.ref 0, .int x1, .int x2, .int x3, .int x4, .long x5, UU, .int x7, UU], [], gm M) (some (.long r), gm Mz) := by
  intro n
  induction n with
  | zero => intro x1 x2 x3 x4 x5 x7 M r Mz hs; cases hs
  | succ n ih =>
    intro x1 x2 x3 x4 x5 x7 M r Mz hs
    rw [qfr_beside_L58] at hs
    by_cases h27 : x7 < (M.1 179 3)
    · rw [if_pos h27] at hs
      refine Rc.goL mt_1122 4 (f2 := (if x7 < (M.1 179 3) then 70 else 139, [.ref 0, .int x1, .int x2, .int x3, .int x4, .long x5, UU, .int x7, UU], [], gm M)) (b := true) rfl rfl ?_
      rw [if_pos h27]
      refine Rc.goL mt_1122 2 (f2 := (76, [.ref 0, .int x1, .int x2, .int x3, .int x4, .long x5, UU, .int x7, UU], [.int x7, .ref 179], gm M)) (b := true) rfl rfl ?_
      obtain ⟨r8, M9, he10, hs⟩ := ob_some hs
      refine Rc.callV (i := 214) (mid' := 1018) (av := [.int x7]) (rest := []) (v := some (.int r8)) (M1 := gm M9) (a := 179) rfl rfl rfl cw_1018 rfl (Nat.le_of_ble_eq_true rfl) rfl (Nat.le_of_ble_eq_true rfl) (qtn_masterOf_ok _ (by omega) he10) ?_
      by_cases h26 : r8 = x1
      · rw [if_pos h26] at hs
        refine Rc.goL mt_1122 1 (f2 := (if r8 = x1 then 86 else 83, [.ref 0, .int x1, .int x2, .int x3, .int x4, .long x5, UU, .int x7, UU], [], gm M9)) (b := true) rfl rfl ?_
        rw [if_pos h26]
        refine Rc.goL mt_1122 1 (f2 := (89, [.ref 0, .int x1, .int x2, .int x3, .int x4, .long x5, UU, .int x7, .int x3], [], gm M9)) (b := true) rfl rfl ?_
        refine Rc.less (ls2 := [.ref 0, .int x1, .int x2, .int x3, .int x4, .long x5, UU, .int x7, .int x3]) (by refine ⟨Or.inr rfl, Or.inr rfl, Or.inr rfl, Or.inr rfl, Or.inr rfl, Or.inr rfl, Or.inl rfl, Or.inr rfl, Or.inr rfl, trivial⟩) ?_
        refine qfr_beside_L89_ok d hd _ (fun y1_19 y2_20 y3_21 y4_22 y5_23 y7_24 M25 r Mz hs => ?_) _ x1 x2 x3 x4 x5 x7 x3 _ _ _ hs
        · refine Rc.goL mt_1122 1 (f2 := (58, [.ref 0, .int y1_19, .int y2_20, .int y3_21, .int y4_22, .long y5_23, UU, .int (y7_24 + (1 : Int32)), UU], [], gm M25)) (b := true) rfl rfl ?_
          refine Rc.less (ls2 := [.ref 0, .int y1_19, .int y2_20, .int y3_21, .int y4_22, .long y5_23, UU, .int (y7_24 + (1 : Int32)), UU]) (by refine ⟨Or.inr rfl, Or.inr rfl, Or.inr rfl, Or.inr rfl, Or.inr rfl, Or.inr rfl, Or.inl rfl, Or.inr rfl, Or.inl rfl, trivial⟩) ?_
          exact ih y1_19 y2_20 y3_21 y4_22 y5_23 (y7_24 + (1 : Int32)) _ _ _ hs
      · rw [if_neg h26] at hs
        refine Rc.goL mt_1122 1 (f2 := (if r8 = x1 then 86 else 83, [.ref 0, .int x1, .int x2, .int x3, .int x4, .long x5, UU, .int x7, UU], [], gm M9)) (b := true) rfl rfl ?_
        rw [if_neg h26]
        refine Rc.goL mt_1122 0 (f2 := (133, [.ref 0, .int x1, .int x2, .int x3, .int x4, .long x5, UU, .int x7, UU], [], gm M9)) (b := true) rfl rfl ?_
        refine Rc.goL mt_1122 1 (f2 := (58, [.ref 0, .int x1, .int x2, .int x3, .int x4, .long x5, UU, .int (x7 + (1 : Int32)), UU], [], gm M9)) (b := true) rfl rfl ?_
        refine Rc.less (ls2 := [.ref 0, .int x1, .int x2, .int x3, .int x4, .long x5, UU, .int (x7 + (1 : Int32)), UU]) (by refine ⟨Or.inr rfl, Or.inr rfl, Or.inr rfl, Or.inr rfl, Or.inr rfl, Or.inr rfl, Or.inl rfl, Or.inr rfl, Or.inl rfl, trivial⟩) ?_
        exact ih x1 x2 x3 x4 x5 (x7 + (1 : Int32)) _ _ _ hs
    · rw [if_neg h27] at hs
      refine Rc.goL mt_1122 4 (f2 := (if x7 < (M.1 179 3) then 70 else 139, [.ref 0, .int x1, .int x2, .int x3, .int x4, .long x5, UU, .int x7, UU], [], gm M)) (b := true) rfl rfl ?_
      rw [if_neg h27]
      refine Rc.goL mt_1122 0 (f2 := (141, [.ref 0, .int x1, .int x2, .int x3, .int x4, .long x5, UU, .int x7, UU], [.long x5], gm M)) (b := true) rfl rfl ?_
      obtain ⟨e1, e2⟩ := some_p hs; subst e1; subst e2
      exact Rc.ret (v := some (.long x5)) rfl rfl
set_option maxRecDepth 20000 in
theorem qfr_beside_ok (d : Nat) (hd : 7 ≤ d) {x1 : Int32} {x2 : Int32} {x3 : Int32} {x4 : Int32} {M : SM} {r : Int64} {Mz : SM} (hs : qfr_beside x1 x2 x3 x4 M = some (r, Mz)) : Ex d 1122 [.ref 0, .int x1, .int x2, .int x3, .int x4] (gm M) (some (.long r), gm Mz) := by
  obtain ⟨d, rfl⟩ : ∃ d0, d = d0 + 1 := ⟨d - 1, by omega⟩
  refine Ex.of okm_1122 (by omega) (Nat.le_of_ble_eq_true rfl) ?_
  show Rc (d + 1) 1122 (0, [.ref 0, .int x1, .int x2, .int x3, .int x4, UU, UU, UU, UU], [], gm M) _
  unfold qfr_beside at hs
  refine Rc.goL mt_1122 2 (f2 := (5, [.ref 0, .int x1, .int x2, .int x3, .int x4, UU, UU, UU, UU], [.int x1, .ref 179], gm M)) (b := true) rfl rfl ?_
  obtain ⟨r1, M2, he3, hs⟩ := ob_some hs
  refine Rc.callV (i := 103) (mid' := 1002) (av := [.int x1]) (rest := []) (v := some (.int r1)) (M1 := gm M2) (a := 179) rfl rfl rfl cw_1002 rfl (Nat.le_of_ble_eq_true rfl) rfl (Nat.le_of_ble_eq_true rfl) (qtn_hasMaster_ok _ (by omega) he3) ?_
  by_cases h31 : r1 = 0
  · rw [if_pos h31] at hs
    refine Rc.goL mt_1122 0 (f2 := (if r1 = 0 then 22 else 11, [.ref 0, .int x1, .int x2, .int x3, .int x4, UU, UU, UU, UU], [], gm M2)) (b := true) rfl rfl ?_
    rw [if_pos h31]
    refine Rc.goL mt_1122 0 (f2 := (25, [.ref 0, .int x1, .int x2, .int x3, .int x4, UU, UU, UU, UU], [.long (-1000000000000 : Int64)], gm M2)) (b := true) rfl rfl ?_
    obtain ⟨e1, e2⟩ := some_p hs; subst e1; subst e2
    exact Rc.ret (v := some (.long (-1000000000000 : Int64))) rfl rfl
  · rw [if_neg h31] at hs
    refine Rc.goL mt_1122 0 (f2 := (if r1 = 0 then 22 else 11, [.ref 0, .int x1, .int x2, .int x3, .int x4, UU, UU, UU, UU], [], gm M2)) (b := true) rfl rfl ?_
    rw [if_neg h31]
    refine Rc.goL mt_1122 2 (f2 := (16, [.ref 0, .int x1, .int x2, .int x3, .int x4, UU, UU, UU, UU], [.int x2, .ref 12], gm M2)) (b := true) rfl rfl ?_
    obtain ⟨r4, M5, he6, hs⟩ := ob_some hs
    refine Rc.callV (i := 172) (mid' := 605) (av := [.int x2]) (rest := []) (v := some (rv r4)) (M1 := gm M5) (a := 12) rfl rfl rfl cw_605 rfl (Nat.le_of_ble_eq_true rfl) rfl (Nat.le_of_ble_eq_true rfl) (qpr_listAt_ok _ (by omega) he6) ?_
    cases r4 with
    | none =>
      have hs := om_none hs
      refine Rc.goL mt_1122 0 (f2 := (22, [.ref 0, .int x1, .int x2, .int x3, .int x4, UU, UU, UU, UU], [], gm M5)) (b := true) rfl rfl ?_
      refine Rc.goL mt_1122 0 (f2 := (25, [.ref 0, .int x1, .int x2, .int x3, .int x4, UU, UU, UU, UU], [.long (-1000000000000 : Int64)], gm M5)) (b := true) rfl rfl ?_
      obtain ⟨e1, e2⟩ := some_p hs; subst e1; subst e2
      exact Rc.ret (v := some (.long (-1000000000000 : Int64))) rfl rfl
    | some s7 =>
      have hs := om_some hs
      refine Rc.goL mt_1122 0 (f2 := (26, [.ref 0, .int x1, .int x2, .int x3, .int x4, UU, UU, UU, UU], [], gm M5)) (b := true) rfl rfl ?_
      by_cases h30 : x3 < 0
      · rw [if_pos h30] at hs
        refine Rc.goL mt_1122 1 (f2 := (if x3 < 0 then 48 else 30, [.ref 0, .int x1, .int x2, .int x3, .int x4, UU, UU, UU, UU], [], gm M5)) (b := true) rfl rfl ?_
        rw [if_pos h30]
        refine Rc.goL mt_1122 0 (f2 := (51, [.ref 0, .int x1, .int x2, .int x3, .int x4, UU, UU, UU, UU], [.long (-1000000000000 : Int64)], gm M5)) (b := true) rfl rfl ?_
        obtain ⟨e1, e2⟩ := some_p hs; subst e1; subst e2
        exact Rc.ret (v := some (.long (-1000000000000 : Int64))) rfl rfl
      · rw [if_neg h30] at hs
        refine Rc.goL mt_1122 1 (f2 := (if x3 < 0 then 48 else 30, [.ref 0, .int x1, .int x2, .int x3, .int x4, UU, UU, UU, UU], [], gm M5)) (b := true) rfl rfl ?_
        rw [if_neg h30]
        by_cases h29 : x4 < x3
        · rw [if_pos h29] at hs
          refine Rc.goL mt_1122 2 (f2 := (if x4 < x3 then 48 else 36, [.ref 0, .int x1, .int x2, .int x3, .int x4, UU, UU, UU, UU], [], gm M5)) (b := true) rfl rfl ?_
          rw [if_pos h29]
          refine Rc.goL mt_1122 0 (f2 := (51, [.ref 0, .int x1, .int x2, .int x3, .int x4, UU, UU, UU, UU], [.long (-1000000000000 : Int64)], gm M5)) (b := true) rfl rfl ?_
          obtain ⟨e1, e2⟩ := some_p hs; subst e1; subst e2
          exact Rc.ret (v := some (.long (-1000000000000 : Int64))) rfl rfl
        · rw [if_neg h29] at hs
          refine Rc.goL mt_1122 2 (f2 := (if x4 < x3 then 48 else 36, [.ref 0, .int x1, .int x2, .int x3, .int x4, UU, UU, UU, UU], [], gm M5)) (b := true) rfl rfl ?_
          rw [if_neg h29]
          by_cases h28 : (M5.1 179 0) < x4
          · rw [if_pos h28] at hs
            refine Rc.goL mt_1122 4 (f2 := (if (M5.1 179 0) < x4 then 48 else 52, [.ref 0, .int x1, .int x2, .int x3, .int x4, UU, UU, UU, UU], [], gm M5)) (b := true) rfl rfl ?_
            rw [if_pos h28]
            refine Rc.goL mt_1122 0 (f2 := (51, [.ref 0, .int x1, .int x2, .int x3, .int x4, UU, UU, UU, UU], [.long (-1000000000000 : Int64)], gm M5)) (b := true) rfl rfl ?_
            obtain ⟨e1, e2⟩ := some_p hs; subst e1; subst e2
            exact Rc.ret (v := some (.long (-1000000000000 : Int64))) rfl rfl
          · rw [if_neg h28] at hs
            refine Rc.goL mt_1122 4 (f2 := (if (M5.1 179 0) < x4 then 48 else 52, [.ref 0, .int x1, .int x2, .int x3, .int x4, UU, UU, UU, UU], [], gm M5)) (b := true) rfl rfl ?_
            rw [if_neg h28]
            refine Rc.goL mt_1122 3 (f2 := (58, [.ref 0, .int x1, .int x2, .int x3, .int x4, .long (0 : Int64), UU, .int (0 : Int32), UU], [], gm M5)) (b := true) rfl rfl ?_
            refine Rc.less (ls2 := [.ref 0, .int x1, .int x2, .int x3, .int x4, .long (0 : Int64), UU, .int (0 : Int32), UU]) (by refine ⟨Or.inr rfl, Or.inr rfl, Or.inr rfl, Or.inr rfl, Or.inr rfl, Or.inr rfl, Or.inl rfl, Or.inr rfl, Or.inl rfl, trivial⟩) ?_
            exact qfr_beside_L58_ok d hd _ x1 x2 x3 x4 (0 : Int64) (0 : Int32) _ _ _ hs
def qfr_lot (x1 : Int32) (M : SM) : Option (Int32 × SM) :=
  ob (qfr_within x1 (0 : Int32) (255 : Int32) M) (fun r1 M2 =>
  if r1 = 0 then
  (some ((-1 : Int32), M2)) else
  (ob (qlo_add x1 M2) (fun r4 M5 =>
    some (r4, M5))))
theorem mt_1123 : MT 1123 K_1123 LN_11 := ⟨rfl, rfl, by decide +kernel⟩
theorem okm_1123 : OKm 1123 := ⟨⟨vE_1123, okL_11, by decide +kernel⟩, by decide +kernel, by decide +kernel, by decide +kernel⟩
set_option maxRecDepth 20000 in
theorem qfr_lot_ok (d : Nat) (hd : 2 ≤ d) {x1 : Int32} {M : SM} {r : Int32} {Mz : SM} (hs : qfr_lot x1 M = some (r, Mz)) : Ex d 1123 [.ref 0, .int x1] (gm M) (some (.int r), gm Mz) := by
  obtain ⟨d, rfl⟩ : ∃ d0, d = d0 + 1 := ⟨d - 1, by omega⟩
  refine Ex.of okm_1123 (by omega) (Nat.le_of_ble_eq_true rfl) ?_
  show Rc (d + 1) 1123 (0, [.ref 0, .int x1], [], gm M) _
  unfold qfr_lot at hs
  refine Rc.goL mt_1123 2 (f2 := (5, [.ref 0, .int x1], [.int (255 : Int32), .int (0 : Int32), .int x1], gm M)) (b := true) rfl rfl ?_
  obtain ⟨r1, M2, he3, hs⟩ := ob_some hs
  refine Rc.callS (i := 96) (mid' := 1137) (av := [.int x1, .int (0 : Int32), .int (255 : Int32)]) (rest := []) (v := some (.int r1)) (M1 := gm M2) rfl (Or.inl rfl) rfl cw_1137 rfl (Nat.le_of_ble_eq_true rfl) (qfr_within_ok _ (by omega) he3) ?_
  by_cases h7 : r1 = 0
  · rw [if_pos h7] at hs
    refine Rc.goL mt_1123 0 (f2 := (if r1 = 0 then 11 else 13, [.ref 0, .int x1], [], gm M2)) (b := true) rfl rfl ?_
    rw [if_pos h7]
    refine Rc.goL mt_1123 0 (f2 := (12, [.ref 0, .int x1], [.int (-1 : Int32)], gm M2)) (b := true) rfl rfl ?_
    obtain ⟨e1, e2⟩ := some_p hs; subst e1; subst e2
    exact Rc.ret (v := some (.int (-1 : Int32))) rfl rfl
  · rw [if_neg h7] at hs
    refine Rc.goL mt_1123 0 (f2 := (if r1 = 0 then 11 else 13, [.ref 0, .int x1], [], gm M2)) (b := true) rfl rfl ?_
    rw [if_neg h7]
    refine Rc.goL mt_1123 2 (f2 := (18, [.ref 0, .int x1], [.int x1, .ref 270], gm M2)) (b := true) rfl rfl ?_
    obtain ⟨r4, M5, he6, hs⟩ := ob_some hs
    refine Rc.callV (i := 321) (mid' := 402) (av := [.int x1]) (rest := []) (v := some (.int r4)) (M1 := gm M5) (a := 270) rfl rfl rfl cw_402 rfl (Nat.le_of_ble_eq_true rfl) rfl (Nat.le_of_ble_eq_true rfl) (qlo_add_ok _ (by omega) he6) ?_
    obtain ⟨e1, e2⟩ := some_p hs; subst e1; subst e2
    exact Rc.ret (v := some (.int r4)) rfl rfl
def qfr_told (x1 : Int32) (x2 : Int32) (M : SM) : Option (Int32 × SM) :=
  ob (qlo_has x1 M) (fun r1 M2 =>
  if r1 = 0 then
  (some ((0 : Int32), M2)) else
  (ob (qfr_within x2 (0 : Int32) (2 : Int32) M2) (fun r4 M5 =>
    if r4 = 0 then
    (some ((0 : Int32), M5)) else
    (ob (qlo_setKind x1 x2 M5) (fun _ M7 =>
      some ((1 : Int32), M7))))))
theorem mt_1124 : MT 1124 K_1124 LN_11 := ⟨rfl, rfl, by decide +kernel⟩
theorem okm_1124 : OKm 1124 := ⟨⟨vE_1124, okL_11, by decide +kernel⟩, by decide +kernel, by decide +kernel, by decide +kernel⟩
set_option maxRecDepth 20000 in
theorem qfr_told_ok (d : Nat) (hd : 3 ≤ d) {x1 : Int32} {x2 : Int32} {M : SM} {r : Int32} {Mz : SM} (hs : qfr_told x1 x2 M = some (r, Mz)) : Ex d 1124 [.ref 0, .int x1, .int x2] (gm M) (some (.int r), gm Mz) := by
  obtain ⟨d, rfl⟩ : ∃ d0, d = d0 + 1 := ⟨d - 1, by omega⟩
  refine Ex.of okm_1124 (by omega) (Nat.le_of_ble_eq_true rfl) ?_
  show Rc (d + 1) 1124 (0, [.ref 0, .int x1, .int x2], [], gm M) _
  unfold qfr_told at hs
  refine Rc.goL mt_1124 2 (f2 := (5, [.ref 0, .int x1, .int x2], [.int x1, .ref 270], gm M)) (b := true) rfl rfl ?_
  obtain ⟨r1, M2, he3, hs⟩ := ob_some hs
  refine Rc.callV (i := 323) (mid' := 401) (av := [.int x1]) (rest := []) (v := some (.int r1)) (M1 := gm M2) (a := 270) rfl rfl rfl cw_401 rfl (Nat.le_of_ble_eq_true rfl) rfl (Nat.le_of_ble_eq_true rfl) (qlo_has_ok _ (by omega) he3) ?_
  by_cases h11 : r1 = 0
  · rw [if_pos h11] at hs
    refine Rc.goL mt_1124 0 (f2 := (if r1 = 0 then 20 else 11, [.ref 0, .int x1, .int x2], [], gm M2)) (b := true) rfl rfl ?_
    rw [if_pos h11]
    refine Rc.goL mt_1124 0 (f2 := (21, [.ref 0, .int x1, .int x2], [.int (0 : Int32)], gm M2)) (b := true) rfl rfl ?_
    obtain ⟨e1, e2⟩ := some_p hs; subst e1; subst e2
    exact Rc.ret (v := some (.int (0 : Int32))) rfl rfl
  · rw [if_neg h11] at hs
    refine Rc.goL mt_1124 0 (f2 := (if r1 = 0 then 20 else 11, [.ref 0, .int x1, .int x2], [], gm M2)) (b := true) rfl rfl ?_
    rw [if_neg h11]
    refine Rc.goL mt_1124 2 (f2 := (14, [.ref 0, .int x1, .int x2], [.int (2 : Int32), .int (0 : Int32), .int x2], gm M2)) (b := true) rfl rfl ?_
    obtain ⟨r4, M5, he6, hs⟩ := ob_some hs
    refine Rc.callS (i := 96) (mid' := 1137) (av := [.int x2, .int (0 : Int32), .int (2 : Int32)]) (rest := []) (v := some (.int r4)) (M1 := gm M5) rfl (Or.inl rfl) rfl cw_1137 rfl (Nat.le_of_ble_eq_true rfl) (qfr_within_ok _ (by omega) he6) ?_
    by_cases h10 : r4 = 0
    · rw [if_pos h10] at hs
      refine Rc.goL mt_1124 0 (f2 := (if r4 = 0 then 20 else 22, [.ref 0, .int x1, .int x2], [], gm M5)) (b := true) rfl rfl ?_
      rw [if_pos h10]
      refine Rc.goL mt_1124 0 (f2 := (21, [.ref 0, .int x1, .int x2], [.int (0 : Int32)], gm M5)) (b := true) rfl rfl ?_
      obtain ⟨e1, e2⟩ := some_p hs; subst e1; subst e2
      exact Rc.ret (v := some (.int (0 : Int32))) rfl rfl
    · rw [if_neg h10] at hs
      refine Rc.goL mt_1124 0 (f2 := (if r4 = 0 then 20 else 22, [.ref 0, .int x1, .int x2], [], gm M5)) (b := true) rfl rfl ?_
      rw [if_neg h10]
      refine Rc.goL mt_1124 3 (f2 := (28, [.ref 0, .int x1, .int x2], [.int x2, .int x1, .ref 270], gm M5)) (b := true) rfl rfl ?_
      obtain ⟨u9, M7, he8, hs⟩ := ob_some hs
      refine Rc.callV (i := 324) (mid' := 403) (av := [.int x1, .int x2]) (rest := []) (v := none) (M1 := gm M7) (a := 270) rfl rfl rfl cw_403 rfl (Nat.le_of_ble_eq_true rfl) rfl (Nat.le_of_ble_eq_true rfl) (qlo_setKind_ok _ (by omega) he8) ?_
      refine Rc.goL mt_1124 0 (f2 := (32, [.ref 0, .int x1, .int x2], [.int (1 : Int32)], gm M7)) (b := true) rfl rfl ?_
      obtain ⟨e1, e2⟩ := some_p hs; subst e1; subst e2
      exact Rc.ret (v := some (.int (1 : Int32))) rfl rfl
def qfr_is (x1 : Int32) (M : SM) : Option (Int32 × SM) :=
  ob (qlo_kindOf x1 M) (fun r1 M2 =>
  some (r1, M2))
theorem mt_1125 : MT 1125 K_1125 LN_11 := ⟨rfl, rfl, by decide +kernel⟩
theorem okm_1125 : OKm 1125 := ⟨⟨vE_1125, okL_11, by decide +kernel⟩, by decide +kernel, by decide +kernel, by decide +kernel⟩
set_option maxRecDepth 20000 in
theorem qfr_is_ok (d : Nat) (hd : 3 ≤ d) {x1 : Int32} {M : SM} {r : Int32} {Mz : SM} (hs : qfr_is x1 M = some (r, Mz)) : Ex d 1125 [.ref 0, .int x1] (gm M) (some (.int r), gm Mz) := by
  obtain ⟨d, rfl⟩ : ∃ d0, d = d0 + 1 := ⟨d - 1, by omega⟩
  refine Ex.of okm_1125 (by omega) (Nat.le_of_ble_eq_true rfl) ?_
  show Rc (d + 1) 1125 (0, [.ref 0, .int x1], [], gm M) _
  unfold qfr_is at hs
  refine Rc.goL mt_1125 2 (f2 := (5, [.ref 0, .int x1], [.int x1, .ref 270], gm M)) (b := true) rfl rfl ?_
  obtain ⟨r1, M2, he3, hs⟩ := ob_some hs
  refine Rc.callV (i := 327) (mid' := 404) (av := [.int x1]) (rest := []) (v := some (.int r1)) (M1 := gm M2) (a := 270) rfl rfl rfl cw_404 rfl (Nat.le_of_ble_eq_true rfl) rfl (Nat.le_of_ble_eq_true rfl) (qlo_kindOf_ok _ (by omega) he3) ?_
  obtain ⟨e1, e2⟩ := some_p hs; subst e1; subst e2
  exact Rc.ret (v := some (.int r1)) rfl rfl
def qfr_isSomeone (x1 : Int32) (M : SM) : Option (Int32 × SM) :=
  if x1 < 0 then
  (some ((0 : Int32), M)) else
  (if x1 < (6 : Int32) then
    (ob (qtn_hasMaster x1 M) (fun r1 M2 =>
      ck (decide (r1 = 0) || decide (r1 = 1)) (some (r1, M2)))) else
    (ob (qtn_hasKnitter (x1 - (6 : Int32)) M) (fun r5 M6 =>
      ck (decide (r5 = 0) || decide (r5 = 1)) (some (r5, M6)))))
theorem mt_1140 : MT 1140 K_1140 LN_11 := ⟨rfl, rfl, by decide +kernel⟩
theorem okm_1140 : OKm 1140 := ⟨⟨vE_1140, okL_11, by decide +kernel⟩, by decide +kernel, by decide +kernel, by decide +kernel⟩
set_option maxRecDepth 20000 in
theorem qfr_isSomeone_ok (d : Nat) (hd : 2 ≤ d) {x1 : Int32} {M : SM} {r : Int32} {Mz : SM} (hs : qfr_isSomeone x1 M = some (r, Mz)) : Ex d 1140 [.ref 0, .int x1] (gm M) (some (.int r), gm Mz) := by
  obtain ⟨d, rfl⟩ : ∃ d0, d = d0 + 1 := ⟨d - 1, by omega⟩
  refine Ex.of okm_1140 (by omega) (Nat.le_of_ble_eq_true rfl) ?_
  show Rc (d + 1) 1140 (0, [.ref 0, .int x1], [], gm M) _
  unfold qfr_isSomeone at hs
  by_cases h10 : x1 < 0
  · rw [if_pos h10] at hs
    refine Rc.goL mt_1140 1 (f2 := (if x1 < 0 then 4 else 6, [.ref 0, .int x1], [], gm M)) (b := true) rfl rfl ?_
    rw [if_pos h10]
    refine Rc.goL mt_1140 0 (f2 := (5, [.ref 0, .int x1], [.int (0 : Int32)], gm M)) (b := true) rfl rfl ?_
    obtain ⟨e1, e2⟩ := some_p hs; subst e1; subst e2
    exact Rc.ret (v := some (.int (0 : Int32))) rfl rfl
  · rw [if_neg h10] at hs
    refine Rc.goL mt_1140 1 (f2 := (if x1 < 0 then 4 else 6, [.ref 0, .int x1], [], gm M)) (b := true) rfl rfl ?_
    rw [if_neg h10]
    by_cases h9 : x1 < (6 : Int32)
    · rw [if_pos h9] at hs
      refine Rc.goL mt_1140 2 (f2 := (if x1 < (6 : Int32) then 12 else 23, [.ref 0, .int x1], [], gm M)) (b := true) rfl rfl ?_
      rw [if_pos h9]
      refine Rc.goL mt_1140 2 (f2 := (17, [.ref 0, .int x1], [.int x1, .ref 179], gm M)) (b := true) rfl rfl ?_
      obtain ⟨r1, M2, he3, hs⟩ := ob_some hs
      refine Rc.callV (i := 103) (mid' := 1002) (av := [.int x1]) (rest := []) (v := some (.int r1)) (M1 := gm M2) (a := 179) rfl rfl rfl cw_1002 rfl (Nat.le_of_ble_eq_true rfl) rfl (Nat.le_of_ble_eq_true rfl) (qtn_hasMaster_ok _ (by omega) he3) ?_
      refine Rc.goL mt_1140 0 (f2 := (34, [.ref 0, .int x1], [.int r1], gm M2)) (b := true) rfl rfl ?_
      obtain ⟨hc4, hs⟩ := ck_some hs
      obtain ⟨e1, e2⟩ := some_p hs; subst e1; subst e2
      exact Rc.ret (v := some (.int r1)) rfl hc4
    · rw [if_neg h9] at hs
      refine Rc.goL mt_1140 2 (f2 := (if x1 < (6 : Int32) then 12 else 23, [.ref 0, .int x1], [], gm M)) (b := true) rfl rfl ?_
      rw [if_neg h9]
      refine Rc.goL mt_1140 4 (f2 := (31, [.ref 0, .int x1], [.int (x1 - (6 : Int32)), .ref 179], gm M)) (b := true) rfl rfl ?_
      obtain ⟨r5, M6, he7, hs⟩ := ob_some hs
      refine Rc.callV (i := 106) (mid' := 1003) (av := [.int (x1 - (6 : Int32))]) (rest := []) (v := some (.int r5)) (M1 := gm M6) (a := 179) rfl rfl rfl cw_1003 rfl (Nat.le_of_ble_eq_true rfl) rfl (Nat.le_of_ble_eq_true rfl) (qtn_hasKnitter_ok _ (by omega) he7) ?_
      obtain ⟨hc8, hs⟩ := ck_some hs
      obtain ⟨e1, e2⟩ := some_p hs; subst e1; subst e2
      exact Rc.ret (v := some (.int r5)) rfl hc8
