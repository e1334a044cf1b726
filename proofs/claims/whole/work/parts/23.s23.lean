def qod_fewest_L10 : Nat → Int32 → Int32 → Int64 → Int32 → SM → Option (Int32 × SM)
  | 0, _, _, _, _, _ => none
  | n + 1, x1, x2, x3, x5, M =>
    if (24 : Int32) < x5 then
    (some ((0 : Int32), M)) else
    (if x2 < x5 then
      (some ((0 : Int32), M)) else
      (ob (qod_gainWith x1 x2 x5 M) (fun r4 M5 =>
        if (lg_cmp r4 x3) = 0 then
        (some (x5, M5)) else
        (qod_fewest_L10 n x1 x2 x3 (x5 + (1 : Int32)) M5))))
def qod_fewest (x1 : Int32) (x2 : Int32) (M : SM) : Option (Int32 × SM) :=
  ob (qod_bestAt x1 x2 M) (fun r1 M2 =>
  qod_fewest_L10 FU x1 x2 r1 (0 : Int32) M2)
theorem mt_510 : MT 510 K_510 LN_5 := ⟨rfl, rfl, by decide +kernel⟩
theorem okm_510 : OKm 510 := ⟨⟨vE_510, okL_5, by decide +kernel⟩, by decide +kernel, by decide +kernel, by decide +kernel⟩
set_option maxRecDepth 20000 in
theorem qod_fewest_L10_ok (d : Nat) (hd : 3 ≤ d + 1) : ∀ (n : Nat) (x1 : Int32) (x2 : Int32) (x3 : Int64) (x5 : Int32) (M : SM) (r : Int32) (Mz : SM), qod_fewest_L10 n x1 x2 x3 x5 M = some (r, Mz) → Rc (d + 1) 510 (10, [.ref 244, .int x1, .int x2, .long x3, UU, .int x5], [], gm M) (some (.int r), gm Mz) := by
  intro n
  induction n with
  | zero => intro x1 x2 x3 x5 M r Mz hs; cases hs
  | succ n ih =>
    intro x1 x2 x3 x5 M r Mz hs
    rw [qod_fewest_L10] at hs
    by_cases h9 : (24 : Int32) < x5
    · rw [if_pos h9] at hs
      refine Rc.goL mt_510 2 (f2 := (if (24 : Int32) < x5 then 45 else 17, [.ref 244, .int x1, .int x2, .long x3, UU, .int x5], [], gm M)) (b := true) rfl rfl ?_
      rw [if_pos h9]
      refine Rc.goL mt_510 0 (f2 := (46, [.ref 244, .int x1, .int x2, .long x3, UU, .int x5], [.int (0 : Int32)], gm M)) (b := true) rfl rfl ?_
      obtain ⟨e1, e2⟩ := some_p hs; subst e1; subst e2
      exact Rc.ret (v := some (.int (0 : Int32))) rfl rfl
    · rw [if_neg h9] at hs
      refine Rc.goL mt_510 2 (f2 := (if (24 : Int32) < x5 then 45 else 17, [.ref 244, .int x1, .int x2, .long x3, UU, .int x5], [], gm M)) (b := true) rfl rfl ?_
      rw [if_neg h9]
      by_cases h8 : x2 < x5
      · rw [if_pos h8] at hs
        refine Rc.goL mt_510 2 (f2 := (if x2 < x5 then 45 else 23, [.ref 244, .int x1, .int x2, .long x3, UU, .int x5], [], gm M)) (b := true) rfl rfl ?_
        rw [if_pos h8]
        refine Rc.goL mt_510 0 (f2 := (46, [.ref 244, .int x1, .int x2, .long x3, UU, .int x5], [.int (0 : Int32)], gm M)) (b := true) rfl rfl ?_
        obtain ⟨e1, e2⟩ := some_p hs; subst e1; subst e2
        exact Rc.ret (v := some (.int (0 : Int32))) rfl rfl
      · rw [if_neg h8] at hs
        refine Rc.goL mt_510 2 (f2 := (if x2 < x5 then 45 else 23, [.ref 244, .int x1, .int x2, .long x3, UU, .int x5], [], gm M)) (b := true) rfl rfl ?_
        rw [if_neg h8]
        refine Rc.goL mt_510 3 (f2 := (28, [.ref 244, .int x1, .int x2, .long x3, UU, .int x5], [.int x5, .int x2, .int x1, .ref 244], gm M)) (b := true) rfl rfl ?_
        obtain ⟨r4, M5, he6, hs⟩ := ob_some hs
        refine Rc.callV (i := 57) (mid' := 506) (av := [.int x1, .int x2, .int x5]) (rest := []) (v := some (.long r4)) (M1 := gm M5) (a := 244) rfl rfl rfl cw_506 rfl (Nat.le_of_ble_eq_true rfl) rfl (Nat.le_of_ble_eq_true rfl) (qod_gainWith_ok _ (by omega) he6) ?_
        by_cases h7 : (lg_cmp r4 x3) = 0
        · rw [if_pos h7] at hs
          refine Rc.goL mt_510 2 (f2 := (if (lg_cmp r4 x3) = 0 then 36 else 39, [.ref 244, .int x1, .int x2, .long x3, UU, .int x5], [], gm M5)) (b := true) rfl rfl ?_
          rw [if_pos h7]
          refine Rc.goL mt_510 0 (f2 := (38, [.ref 244, .int x1, .int x2, .long x3, UU, .int x5], [.int x5], gm M5)) (b := true) rfl rfl ?_
          obtain ⟨e1, e2⟩ := some_p hs; subst e1; subst e2
          exact Rc.ret (v := some (.int x5)) rfl rfl
        · rw [if_neg h7] at hs
          refine Rc.goL mt_510 2 (f2 := (if (lg_cmp r4 x3) = 0 then 36 else 39, [.ref 244, .int x1, .int x2, .long x3, UU, .int x5], [], gm M5)) (b := true) rfl rfl ?_
          rw [if_neg h7]
          refine Rc.goL mt_510 1 (f2 := (10, [.ref 244, .int x1, .int x2, .long x3, UU, .int (x5 + (1 : Int32))], [], gm M5)) (b := true) rfl rfl ?_
          refine Rc.less (ls2 := [.ref 244, .int x1, .int x2, .long x3, UU, .int (x5 + (1 : Int32))]) (by refine ⟨Or.inr rfl, Or.inr rfl, Or.inr rfl, Or.inr rfl, Or.inl rfl, Or.inr rfl, trivial⟩) ?_
          exact ih x1 x2 x3 (x5 + (1 : Int32)) _ _ _ hs
set_option maxRecDepth 20000 in
theorem qod_fewest_ok (d : Nat) (hd : 3 ≤ d) {x1 : Int32} {x2 : Int32} {M : SM} {r : Int32} {Mz : SM} (hs : qod_fewest x1 x2 M = some (r, Mz)) : Ex d 510 [.ref 244, .int x1, .int x2] (gm M) (some (.int r), gm Mz) := by
  obtain ⟨d, rfl⟩ : ∃ d0, d = d0 + 1 := ⟨d - 1, by omega⟩
  refine Ex.of okm_510 (by omega) (Nat.le_of_ble_eq_true rfl) ?_
  show Rc (d + 1) 510 (0, [.ref 244, .int x1, .int x2, UU, UU, UU], [], gm M) _
  unfold qod_fewest at hs
  refine Rc.goL mt_510 2 (f2 := (3, [.ref 244, .int x1, .int x2, UU, UU, UU], [.int x2, .int x1, .ref 244], gm M)) (b := true) rfl rfl ?_
  obtain ⟨r1, M2, he3, hs⟩ := ob_some hs
  refine Rc.callV (i := 38) (mid' := 505) (av := [.int x1, .int x2]) (rest := []) (v := some (.long r1)) (M1 := gm M2) (a := 244) rfl rfl rfl cw_505 rfl (Nat.le_of_ble_eq_true rfl) rfl (Nat.le_of_ble_eq_true rfl) (qod_bestAt_ok _ (by omega) he3) ?_
  refine Rc.goL mt_510 2 (f2 := (10, [.ref 244, .int x1, .int x2, .long r1, UU, .int (0 : Int32)], [], gm M2)) (b := true) rfl rfl ?_
  refine Rc.less (ls2 := [.ref 244, .int x1, .int x2, .long r1, UU, .int (0 : Int32)]) (by refine ⟨Or.inr rfl, Or.inr rfl, Or.inr rfl, Or.inr rfl, Or.inl rfl, Or.inr rfl, trivial⟩) ?_
  exact qod_fewest_L10_ok d hd _ x1 x2 r1 (0 : Int32) _ _ _ hs
def qod_shareOut_L2 (k24 : SM → Option (Unit × SM)) : Nat → Int32 → SM → Option (Unit × SM)
  | 0, _, _ => none
  | n + 1, x1, M =>
    if x1 < (16 : Int32) then
    (ck (ib 16 x1 && true) (
      qod_shareOut_L2 k24 n (x1 + (1 : Int32)) (wI M 269 (Int32.toNatClampNeg x1) (0 : Int32)))) else
    (k24 M)
def qod_shareOut_L31 : Nat → Int32 → Int32 → SM → Option (Unit × SM)
  | 0, _, _, _ => none
  | n + 1, x1, x2, M =>
    if x2 < (M.1 244 7) then
    (if x2 < (10 : Int32) then
      (ob (qod_fewest x2 x1 M) (fun r4 M5 =>
        ck (ib 10 x2 && true) (
        if (M5.1 245 (Int32.toNatClampNeg x2)) < 0 then
        (qod_shareOut_L31 n (x1 - r4) (x2 + (1 : Int32)) M5) else
        (if (M5.1 245 (Int32.toNatClampNeg x2)) < (16 : Int32) then
          (ck (ib 16 (M5.1 245 (Int32.toNatClampNeg x2)) && true) (
            qod_shareOut_L31 n (x1 - r4) (x2 + (1 : Int32)) (wI M5 269 (Int32.toNatClampNeg (M5.1 245 (Int32.toNatClampNeg x2))) r4))) else
          (qod_shareOut_L31 n (x1 - r4) (x2 + (1 : Int32)) M5))))) else
      (some ((), M))) else
    (some ((), M))
def qod_shareOut (M : SM) : Option (Unit × SM) :=
  qod_shareOut_L2 (fun M3 =>
  qod_shareOut_L31 FU (M3.1 244 3) (0 : Int32) M3) FU (0 : Int32) M
theorem mt_509 : MT 509 K_509 LN_5 := ⟨rfl, rfl, by decide +kernel⟩
theorem okm_509 : OKm 509 := ⟨⟨vE_509, okL_5, by decide +kernel⟩, by decide +kernel, by decide +kernel, by decide +kernel⟩
set_option maxRecDepth 20000 in
theorem qod_shareOut_L2_ok (d : Nat) (hd : 4 ≤ d + 1) (k24 : SM → Option (Unit × SM)) (hk24 : ∀ (M : SM) (r : Unit) (Mz : SM), k24 M = some (r, Mz) → Rc (d + 1) 509 (24, [.ref 244, UU, UU, UU, UU], [], gm M) (none, gm Mz)) : ∀ (n : Nat) (x1 : Int32) (M : SM) (r : Unit) (Mz : SM), qod_shareOut_L2 k24 n x1 M = some (r, Mz) → Rc (d + 1) 509 (2, [.ref 244, .int x1, UU, UU, UU], [], gm M) (none, gm Mz) := by
  intro n
  induction n with
  | zero => intro x1 M r Mz hs; cases hs
  | succ n ih =>
    intro x1 M r Mz hs
    rw [qod_shareOut_L2] at hs
    by_cases h2 : x1 < (16 : Int32)
    · rw [if_pos h2] at hs
      refine Rc.goL mt_509 4 (f2 := (if x1 < (16 : Int32) then 11 else 24, [.ref 244, .int x1, UU, UU, UU], [], gm M)) (b := true) rfl rfl ?_
      rw [if_pos h2]
      obtain ⟨hb1, hs⟩ := ck_some hs
      obtain ⟨hb1_0, hb1⟩ := and_t hb1
      refine Rc.goL mt_509 4 (f2 := (18, [.ref 244, .int x1, UU, UU, UU], [], gm (wI M 269 (Int32.toNatClampNeg x1) (0 : Int32)))) (b := (ib 16 x1 && true)) rfl (and_i hb1_0 rfl) ?_
      refine Rc.goL mt_509 1 (f2 := (2, [.ref 244, .int (x1 + (1 : Int32)), UU, UU, UU], [], gm (wI M 269 (Int32.toNatClampNeg x1) (0 : Int32)))) (b := true) rfl rfl ?_
      refine Rc.less (ls2 := [.ref 244, .int (x1 + (1 : Int32)), UU, UU, UU]) (by refine ⟨Or.inr rfl, Or.inr rfl, Or.inl rfl, Or.inl rfl, Or.inl rfl, trivial⟩) ?_
      exact ih (x1 + (1 : Int32)) _ _ _ hs
    · rw [if_neg h2] at hs
      refine Rc.goL mt_509 4 (f2 := (if x1 < (16 : Int32) then 11 else 24, [.ref 244, .int x1, UU, UU, UU], [], gm M)) (b := true) rfl rfl ?_
      rw [if_neg h2]
      refine Rc.less (ls2 := [.ref 244, UU, UU, UU, UU]) (by refine ⟨Or.inr rfl, Or.inl rfl, Or.inl rfl, Or.inl rfl, Or.inl rfl, trivial⟩) ?_
      exact hk24 _ _ _ hs
set_option maxRecDepth 20000 in
theorem qod_shareOut_L31_ok (d : Nat) (hd : 4 ≤ d + 1) : ∀ (n : Nat) (x1 : Int32) (x2 : Int32) (M : SM) (r : Unit) (Mz : SM), qod_shareOut_L31 n x1 x2 M = some (r, Mz) → Rc (d + 1) 509 (31, [.ref 244, .int x1, .int x2, UU, UU], [], gm M) (none, gm Mz) := by
  intro n
  induction n with
  | zero => intro x1 x2 M r Mz hs; cases hs
  | succ n ih =>
    intro x1 x2 M r Mz hs
    rw [qod_shareOut_L31] at hs
    by_cases h12 : x2 < (M.1 244 7)
    · rw [if_pos h12] at hs
      refine Rc.goL mt_509 3 (f2 := (if x2 < (M.1 244 7) then 39 else 93, [.ref 244, .int x1, .int x2, UU, UU], [], gm M)) (b := true) rfl rfl ?_
      rw [if_pos h12]
      by_cases h11 : x2 < (10 : Int32)
      · rw [if_pos h11] at hs
        refine Rc.goL mt_509 2 (f2 := (if x2 < (10 : Int32) then 45 else 93, [.ref 244, .int x1, .int x2, UU, UU], [], gm M)) (b := true) rfl rfl ?_
        rw [if_pos h11]
        refine Rc.goL mt_509 2 (f2 := (48, [.ref 244, .int x1, .int x2, UU, UU], [.int x1, .int x2, .ref 244], gm M)) (b := true) rfl rfl ?_
        obtain ⟨r4, M5, he6, hs⟩ := ob_some hs
        refine Rc.callV (i := 70) (mid' := 510) (av := [.int x2, .int x1]) (rest := []) (v := some (.int r4)) (M1 := gm M5) (a := 244) rfl rfl rfl cw_510 rfl (Nat.le_of_ble_eq_true rfl) rfl (Nat.le_of_ble_eq_true rfl) (qod_fewest_ok _ (by omega) he6) ?_
        obtain ⟨hb7, hs⟩ := ck_some hs
        obtain ⟨hb7_0, hb7⟩ := and_t hb7
        refine Rc.goL mt_509 6 (f2 := (62, [.ref 244, .int x1, .int x2, .int r4, .int (M5.1 245 (Int32.toNatClampNeg x2))], [.int (M5.1 245 (Int32.toNatClampNeg x2))], gm M5)) (b := (ib 10 x2 && true)) rfl (and_i hb7_0 rfl) ?_
        by_cases h10 : (M5.1 245 (Int32.toNatClampNeg x2)) < 0
        · rw [if_pos h10] at hs
          refine Rc.goL mt_509 0 (f2 := (if (M5.1 245 (Int32.toNatClampNeg x2)) < 0 then 83 else 65, [.ref 244, .int x1, .int x2, .int r4, .int (M5.1 245 (Int32.toNatClampNeg x2))], [], gm M5)) (b := true) rfl rfl ?_
          rw [if_pos h10]
          refine Rc.goL mt_509 5 (f2 := (31, [.ref 244, .int (x1 - r4), .int (x2 + (1 : Int32)), .int r4, .int (M5.1 245 (Int32.toNatClampNeg x2))], [], gm M5)) (b := true) rfl rfl ?_
          refine Rc.less (ls2 := [.ref 244, .int (x1 - r4), .int (x2 + (1 : Int32)), UU, UU]) (by refine ⟨Or.inr rfl, Or.inr rfl, Or.inr rfl, Or.inl rfl, Or.inl rfl, trivial⟩) ?_
          exact ih (x1 - r4) (x2 + (1 : Int32)) _ _ _ hs
        · rw [if_neg h10] at hs
          refine Rc.goL mt_509 0 (f2 := (if (M5.1 245 (Int32.toNatClampNeg x2)) < 0 then 83 else 65, [.ref 244, .int x1, .int x2, .int r4, .int (M5.1 245 (Int32.toNatClampNeg x2))], [], gm M5)) (b := true) rfl rfl ?_
          rw [if_neg h10]
          by_cases h9 : (M5.1 245 (Int32.toNatClampNeg x2)) < (16 : Int32)
          · rw [if_pos h9] at hs
            refine Rc.goL mt_509 4 (f2 := (if (M5.1 245 (Int32.toNatClampNeg x2)) < (16 : Int32) then 75 else 83, [.ref 244, .int x1, .int x2, .int r4, .int (M5.1 245 (Int32.toNatClampNeg x2))], [], gm M5)) (b := true) rfl rfl ?_
            rw [if_pos h9]
            obtain ⟨hb8, hs⟩ := ck_some hs
            refine Rc.goL mt_509 4 (f2 := (83, [.ref 244, .int x1, .int x2, .int r4, .int (M5.1 245 (Int32.toNatClampNeg x2))], [], gm (wI M5 269 (Int32.toNatClampNeg (M5.1 245 (Int32.toNatClampNeg x2))) r4))) (b := (ib 16 (M5.1 245 (Int32.toNatClampNeg x2)) && true)) rfl hb8 ?_
            refine Rc.goL mt_509 5 (f2 := (31, [.ref 244, .int (x1 - r4), .int (x2 + (1 : Int32)), .int r4, .int (M5.1 245 (Int32.toNatClampNeg x2))], [], gm (wI M5 269 (Int32.toNatClampNeg (M5.1 245 (Int32.toNatClampNeg x2))) r4))) (b := true) rfl rfl ?_
            refine Rc.less (ls2 := [.ref 244, .int (x1 - r4), .int (x2 + (1 : Int32)), UU, UU]) (by refine ⟨Or.inr rfl, Or.inr rfl, Or.inr rfl, Or.inl rfl, Or.inl rfl, trivial⟩) ?_
            exact ih (x1 - r4) (x2 + (1 : Int32)) _ _ _ hs
          · rw [if_neg h9] at hs
            refine Rc.goL mt_509 4 (f2 := (if (M5.1 245 (Int32.toNatClampNeg x2)) < (16 : Int32) then 75 else 83, [.ref 244, .int x1, .int x2, .int r4, .int (M5.1 245 (Int32.toNatClampNeg x2))], [], gm M5)) (b := true) rfl rfl ?_
            rw [if_neg h9]
            refine Rc.goL mt_509 5 (f2 := (31, [.ref 244, .int (x1 - r4), .int (x2 + (1 : Int32)), .int r4, .int (M5.1 245 (Int32.toNatClampNeg x2))], [], gm M5)) (b := true) rfl rfl ?_
            refine Rc.less (ls2 := [.ref 244, .int (x1 - r4), .int (x2 + (1 : Int32)), UU, UU]) (by refine ⟨Or.inr rfl, Or.inr rfl, Or.inr rfl, Or.inl rfl, Or.inl rfl, trivial⟩) ?_
            exact ih (x1 - r4) (x2 + (1 : Int32)) _ _ _ hs
      · rw [if_neg h11] at hs
        refine Rc.goL mt_509 2 (f2 := (if x2 < (10 : Int32) then 45 else 93, [.ref 244, .int x1, .int x2, UU, UU], [], gm M)) (b := true) rfl rfl ?_
        rw [if_neg h11]
        obtain ⟨e1, e2⟩ := some_p hs; subst e1; subst e2
        exact Rc.ret (v := none) rfl rfl
    · rw [if_neg h12] at hs
      refine Rc.goL mt_509 3 (f2 := (if x2 < (M.1 244 7) then 39 else 93, [.ref 244, .int x1, .int x2, UU, UU], [], gm M)) (b := true) rfl rfl ?_
      rw [if_neg h12]
      obtain ⟨e1, e2⟩ := some_p hs; subst e1; subst e2
      exact Rc.ret (v := none) rfl rfl
set_option maxRecDepth 20000 in
theorem qod_shareOut_ok (d : Nat) (hd : 4 ≤ d) {M : SM} {r : Unit} {Mz : SM} (hs : qod_shareOut M = some (r, Mz)) : Ex d 509 [.ref 244] (gm M) (none, gm Mz) := by
  obtain ⟨d, rfl⟩ : ∃ d0, d = d0 + 1 := ⟨d - 1, by omega⟩
  refine Ex.of okm_509 (by omega) (Nat.le_of_ble_eq_true rfl) ?_
  show Rc (d + 1) 509 (0, [.ref 244, UU, UU, UU, UU], [], gm M) _
  unfold qod_shareOut at hs
  refine Rc.goL mt_509 1 (f2 := (2, [.ref 244, .int (0 : Int32), UU, UU, UU], [], gm M)) (b := true) rfl rfl ?_
  refine Rc.less (ls2 := [.ref 244, .int (0 : Int32), UU, UU, UU]) (by refine ⟨Or.inr rfl, Or.inr rfl, Or.inl rfl, Or.inl rfl, Or.inl rfl, trivial⟩) ?_
  refine qod_shareOut_L2_ok d hd _ (fun M3 r Mz hs => ?_) _ (0 : Int32) _ _ _ hs
  · refine Rc.goL mt_509 4 (f2 := (31, [.ref 244, .int (M3.1 244 3), .int (0 : Int32), UU, UU], [], gm M3)) (b := true) rfl rfl ?_
    refine Rc.less (ls2 := [.ref 244, .int (M3.1 244 3), .int (0 : Int32), UU, UU]) (by refine ⟨Or.inr rfl, Or.inr rfl, Or.inr rfl, Or.inl rfl, Or.inl rfl, trivial⟩) ?_
    exact qod_shareOut_L31_ok d hd _ (M3.1 244 3) (0 : Int32) _ _ _ hs
def qod_findBest (M : SM) : Option (Int64 × SM) :=
  ob (qod_fillBest M) (fun _ M1 =>
  ob (qod_bestAt (0 : Int32) (M1.1 244 3) M1) (fun r4 M5 =>
  if (lg_cmp r4 (-1000000000000 : Int64)) = 0 then
  (some (r4, M5)) else
  (ob (qod_shareOut M5) (fun _ M7 =>
    some (r4, M7)))))
theorem mt_508 : MT 508 K_508 LN_5 := ⟨rfl, rfl, by decide +kernel⟩
theorem okm_508 : OKm 508 := ⟨⟨vE_508, okL_5, by decide +kernel⟩, by decide +kernel, by decide +kernel, by decide +kernel⟩
set_option maxRecDepth 20000 in
theorem qod_findBest_ok (d : Nat) (hd : 5 ≤ d) {M : SM} {r : Int64} {Mz : SM} (hs : qod_findBest M = some (r, Mz)) : Ex d 508 [.ref 244] (gm M) (some (.long r), gm Mz) := by
  obtain ⟨d, rfl⟩ : ∃ d0, d = d0 + 1 := ⟨d - 1, by omega⟩
  refine Ex.of okm_508 (by omega) (Nat.le_of_ble_eq_true rfl) ?_
  show Rc (d + 1) 508 (0, [.ref 244, UU, UU], [], gm M) _
  unfold qod_findBest at hs
  refine Rc.goL mt_508 0 (f2 := (1, [.ref 244, UU, UU], [.ref 244], gm M)) (b := true) rfl rfl ?_
  obtain ⟨u3, M1, he2, hs⟩ := ob_some hs
  refine Rc.callV (i := 64) (mid' := 507) (av := []) (rest := []) (v := none) (M1 := gm M1) (a := 244) rfl rfl rfl cw_507 rfl (Nat.le_of_ble_eq_true rfl) rfl (Nat.le_of_ble_eq_true rfl) (qod_fillBest_ok _ (by omega) he2) ?_
  refine Rc.goL mt_508 3 (f2 := (10, [.ref 244, UU, UU], [.int (M1.1 244 3), .int (0 : Int32), .ref 244], gm M1)) (b := true) rfl rfl ?_
  obtain ⟨r4, M5, he6, hs⟩ := ob_some hs
  refine Rc.callV (i := 38) (mid' := 505) (av := [.int (0 : Int32), .int (M1.1 244 3)]) (rest := []) (v := some (.long r4)) (M1 := gm M5) (a := 244) rfl rfl rfl cw_505 rfl (Nat.le_of_ble_eq_true rfl) rfl (Nat.le_of_ble_eq_true rfl) (qod_bestAt_ok _ (by omega) he6) ?_
  by_cases h10 : (lg_cmp r4 (-1000000000000 : Int64)) = 0
  · rw [if_pos h10] at hs
    refine Rc.goL mt_508 4 (f2 := (if (lg_cmp r4 (-1000000000000 : Int64)) = 0 then 26 else 22, [.ref 244, .long r4, UU], [], gm M5)) (b := true) rfl rfl ?_
    rw [if_pos h10]
    refine Rc.goL mt_508 0 (f2 := (27, [.ref 244, .long r4, UU], [.long r4], gm M5)) (b := true) rfl rfl ?_
    obtain ⟨e1, e2⟩ := some_p hs; subst e1; subst e2
    exact Rc.ret (v := some (.long r4)) rfl rfl
  · rw [if_neg h10] at hs
    refine Rc.goL mt_508 4 (f2 := (if (lg_cmp r4 (-1000000000000 : Int64)) = 0 then 26 else 22, [.ref 244, .long r4, UU], [], gm M5)) (b := true) rfl rfl ?_
    rw [if_neg h10]
    refine Rc.goL mt_508 0 (f2 := (23, [.ref 244, .long r4, UU], [.ref 244], gm M5)) (b := true) rfl rfl ?_
    obtain ⟨u9, M7, he8, hs⟩ := ob_some hs
    refine Rc.callV (i := 67) (mid' := 509) (av := []) (rest := []) (v := none) (M1 := gm M7) (a := 244) rfl rfl rfl cw_509 rfl (Nat.le_of_ble_eq_true rfl) rfl (Nat.le_of_ble_eq_true rfl) (qod_shareOut_ok _ (by omega) he8) ?_
    refine Rc.goL mt_508 0 (f2 := (27, [.ref 244, .long r4, UU], [.long r4], gm M7)) (b := true) rfl rfl ?_
    obtain ⟨e1, e2⟩ := some_p hs; subst e1; subst e2
    exact Rc.ret (v := some (.long r4)) rfl rfl
def qod_shareOf (x1 : Int32) (M : SM) : Option (Int32 × SM) :=
  if x1 < 0 then
  (some ((0 : Int32), M)) else
  (if x1 < (16 : Int32) then
    (ck (ib 16 x1 && true) (
      some ((M.1 269 (Int32.toNatClampNeg x1)), M))) else
    (some ((0 : Int32), M)))
theorem mt_511 : MT 511 K_511 LN_5 := ⟨rfl, rfl, by decide +kernel⟩
theorem okm_511 : OKm 511 := ⟨⟨vE_511, okL_5, by decide +kernel⟩, by decide +kernel, by decide +kernel, by decide +kernel⟩
set_option maxRecDepth 20000 in
theorem qod_shareOf_ok (d : Nat) (hd : 1 ≤ d) {x1 : Int32} {M : SM} {r : Int32} {Mz : SM} (hs : qod_shareOf x1 M = some (r, Mz)) : Ex d 511 [.ref 244, .int x1] (gm M) (some (.int r), gm Mz) := by
  obtain ⟨d, rfl⟩ : ∃ d0, d = d0 + 1 := ⟨d - 1, by omega⟩
  refine Ex.of okm_511 (by omega) (Nat.le_of_ble_eq_true rfl) ?_
  show Rc (d + 1) 511 (0, [.ref 244, .int x1], [], gm M) _
  unfold qod_shareOf at hs
  by_cases h3 : x1 < 0
  · rw [if_pos h3] at hs
    refine Rc.goL mt_511 1 (f2 := (if x1 < 0 then 22 else 4, [.ref 244, .int x1], [], gm M)) (b := true) rfl rfl ?_
    rw [if_pos h3]
    refine Rc.goL mt_511 0 (f2 := (23, [.ref 244, .int x1], [.int (0 : Int32)], gm M)) (b := true) rfl rfl ?_
    obtain ⟨e1, e2⟩ := some_p hs; subst e1; subst e2
    exact Rc.ret (v := some (.int (0 : Int32))) rfl rfl
  · rw [if_neg h3] at hs
    refine Rc.goL mt_511 1 (f2 := (if x1 < 0 then 22 else 4, [.ref 244, .int x1], [], gm M)) (b := true) rfl rfl ?_
    rw [if_neg h3]
    by_cases h2 : x1 < (16 : Int32)
    · rw [if_pos h2] at hs
      refine Rc.goL mt_511 4 (f2 := (if x1 < (16 : Int32) then 13 else 22, [.ref 244, .int x1], [], gm M)) (b := true) rfl rfl ?_
      rw [if_pos h2]
      obtain ⟨hb1, hs⟩ := ck_some hs
      refine Rc.goL mt_511 4 (f2 := (23, [.ref 244, .int x1], [.int (M.1 269 (Int32.toNatClampNeg x1))], gm M)) (b := (ib 16 x1 && true)) rfl hb1 ?_
      obtain ⟨e1, e2⟩ := some_p hs; subst e1; subst e2
      exact Rc.ret (v := some (.int (M.1 269 (Int32.toNatClampNeg x1)))) rfl rfl
    · rw [if_neg h2] at hs
      refine Rc.goL mt_511 4 (f2 := (if x1 < (16 : Int32) then 13 else 22, [.ref 244, .int x1], [], gm M)) (b := true) rfl rfl ?_
      rw [if_neg h2]
      refine Rc.goL mt_511 0 (f2 := (23, [.ref 244, .int x1], [.int (0 : Int32)], gm M)) (b := true) rfl rfl ?_
      obtain ⟨e1, e2⟩ := some_p hs; subst e1; subst e2
      exact Rc.ret (v := some (.int (0 : Int32))) rfl rfl
def qtp_byteAt (x1 : Int32) (M : SM) : Option (Int32 × SM) :=
  if x1 < 0 then
  (some ((0 : Int32), M)) else
  (if x1 < (M.1 1 1) then
    (if x1 < (200 : Int32) then
      (ck (ib 200 x1 && true) (
        some (((M.1 2 (Int32.toNatClampNeg x1)) &&& (255 : Int32)), M))) else
      (some ((0 : Int32), M))) else
    (some ((0 : Int32), M)))
theorem mt_904 : MT 904 K_904 LN_9 := ⟨rfl, rfl, by decide +kernel⟩
theorem okm_904 : OKm 904 := ⟨⟨vE_904, okL_9, by decide +kernel⟩, by decide +kernel, by decide +kernel, by decide +kernel⟩
set_option maxRecDepth 20000 in
theorem qtp_byteAt_ok (d : Nat) (hd : 1 ≤ d) {x1 : Int32} {M : SM} {r : Int32} {Mz : SM} (hs : qtp_byteAt x1 M = some (r, Mz)) : Ex d 904 [.ref 1, .int x1] (gm M) (some (.int r), gm Mz) := by
  obtain ⟨d, rfl⟩ : ∃ d0, d = d0 + 1 := ⟨d - 1, by omega⟩
  refine Ex.of okm_904 (by omega) (Nat.le_of_ble_eq_true rfl) ?_
  show Rc (d + 1) 904 (0, [.ref 1, .int x1], [], gm M) _
  unfold qtp_byteAt at hs
  by_cases h4 : x1 < 0
  · rw [if_pos h4] at hs
    refine Rc.goL mt_904 1 (f2 := (if x1 < 0 then 21 else 4, [.ref 1, .int x1], [], gm M)) (b := true) rfl rfl ?_
    rw [if_pos h4]
    refine Rc.goL mt_904 0 (f2 := (22, [.ref 1, .int x1], [.int (0 : Int32)], gm M)) (b := true) rfl rfl ?_
    obtain ⟨e1, e2⟩ := some_p hs; subst e1; subst e2
    exact Rc.ret (v := some (.int (0 : Int32))) rfl rfl
  · rw [if_neg h4] at hs
    refine Rc.goL mt_904 1 (f2 := (if x1 < 0 then 21 else 4, [.ref 1, .int x1], [], gm M)) (b := true) rfl rfl ?_
    rw [if_neg h4]
    by_cases h3 : x1 < (M.1 1 1)
    · rw [if_pos h3] at hs
      refine Rc.goL mt_904 3 (f2 := (if x1 < (M.1 1 1) then 12 else 21, [.ref 1, .int x1], [], gm M)) (b := true) rfl rfl ?_
      rw [if_pos h3]
      by_cases h2 : x1 < (200 : Int32)
      · rw [if_pos h2] at hs
        refine Rc.goL mt_904 4 (f2 := (if x1 < (200 : Int32) then 23 else 21, [.ref 1, .int x1], [], gm M)) (b := true) rfl rfl ?_
        rw [if_pos h2]
        obtain ⟨hb1, hs⟩ := ck_some hs
        refine Rc.goL mt_904 5 (f2 := (33, [.ref 1, .int x1], [.int ((M.1 2 (Int32.toNatClampNeg x1)) &&& (255 : Int32))], gm M)) (b := (ib 200 x1 && true)) rfl hb1 ?_
        obtain ⟨e1, e2⟩ := some_p hs; subst e1; subst e2
        exact Rc.ret (v := some (.int ((M.1 2 (Int32.toNatClampNeg x1)) &&& (255 : Int32)))) rfl rfl
      · rw [if_neg h2] at hs
        refine Rc.goL mt_904 4 (f2 := (if x1 < (200 : Int32) then 23 else 21, [.ref 1, .int x1], [], gm M)) (b := true) rfl rfl ?_
        rw [if_neg h2]
        refine Rc.goL mt_904 0 (f2 := (22, [.ref 1, .int x1], [.int (0 : Int32)], gm M)) (b := true) rfl rfl ?_
        obtain ⟨e1, e2⟩ := some_p hs; subst e1; subst e2
        exact Rc.ret (v := some (.int (0 : Int32))) rfl rfl
    · rw [if_neg h3] at hs
      refine Rc.goL mt_904 3 (f2 := (if x1 < (M.1 1 1) then 12 else 21, [.ref 1, .int x1], [], gm M)) (b := true) rfl rfl ?_
      rw [if_neg h3]
      refine Rc.goL mt_904 0 (f2 := (22, [.ref 1, .int x1], [.int (0 : Int32)], gm M)) (b := true) rfl rfl ?_
      obtain ⟨e1, e2⟩ := some_p hs; subst e1; subst e2
      exact Rc.ret (v := some (.int (0 : Int32))) rfl rfl
def qod_gainOfRow_L20 (k69 : Int64 → Int32 → SM → Option (Int64 × SM)) : Nat → Int32 → Int64 → Int32 → Int32 → SM → Option (Int64 × SM)
  | 0, _, _, _, _, _ => none
  | n + 1, x2, x3, x5, x6, M =>
    if x6 < x2 then
    (ob (qtp_byteAt x6 M) (fun r1 M2 =>
      if (24 : Int32) < r1 then
      (some ((-1000000000000 : Int64), M2)) else
      (ob (qod_gainAt x6 r1 M2) (fun r4 M5 =>
        qod_gainOfRow_L20 k69 n x2 (x3 + r4) (x5 + r1) (x6 + (1 : Int32)) M5)))) else
    (k69 x3 x5 M)
def qod_gainOfRow (x2 : Int32) (M : SM) : Option (Int64 × SM) :=
  if x2 = (M.1 244 7) then
  (qod_gainOfRow_L20 (fun y3_9 y5_10 M11 =>
    if y5_10 = (M11.1 244 3) then
      (some (y3_9, M11)) else
      (some ((-1000000000000 : Int64), M11))) FU x2 (0 : Int64) (0 : Int32) (0 : Int32) M) else
  (some ((-1000000000000 : Int64), M))
theorem mt_512 : MT 512 K_512 LN_5 := ⟨rfl, rfl, by decide +kernel⟩
theorem okm_512 : OKm 512 := ⟨⟨vE_512, okL_5, by decide +kernel⟩, by decide +kernel, by decide +kernel, by decide +kernel⟩
set_option maxRecDepth 20000 in
theorem qod_gainOfRow_L20_ok (d : Nat) (hd : 2 ≤ d + 1) (k69 : Int64 → Int32 → SM → Option (Int64 × SM)) (hk69 : ∀ (y3 : Int64) (y5 : Int32) (M : SM) (r : Int64) (Mz : SM), k69 y3 y5 M = some (r, Mz) → Rc (d + 1) 512 (69, [.ref 244, UU, UU, .long y3, UU, .int y5, UU, UU], [], gm M) (some (.long r), gm Mz)) : ∀ (n : Nat) (x2 : Int32) (x3 : Int64) (x5 : Int32) (x6 : Int32) (M : SM) (r : Int64) (Mz : SM), qod_gainOfRow_L20 k69 n x2 x3 x5 x6 M = some (r, Mz) → Rc (d + 1) 512 (20, [.ref 244, .ref 1, .int x2, .long x3, UU, .int x5, .int x6, UU], [], gm M) (some (.long r), gm Mz) := by
  intro n
  induction n with
  | zero => intro x2 x3 x5 x6 M r Mz hs; cases hs
  | succ n ih =>
    intro x2 x3 x5 x6 M r Mz hs
    rw [qod_gainOfRow_L20] at hs
    by_cases h8 : x6 < x2
    · rw [if_pos h8] at hs
      refine Rc.goL mt_512 2 (f2 := (if x6 < x2 then 26 else 69, [.ref 244, .ref 1, .int x2, .long x3, UU, .int x5, .int x6, UU], [], gm M)) (b := true) rfl rfl ?_
      rw [if_pos h8]
      refine Rc.goL mt_512 1 (f2 := (29, [.ref 244, .ref 1, .int x2, .long x3, UU, .int x5, .int x6, UU], [.int x6, .ref 1], gm M)) (b := true) rfl rfl ?_
      obtain ⟨r1, M2, he3, hs⟩ := ob_some hs
      refine Rc.callV (i := 73) (mid' := 904) (av := [.int x6]) (rest := []) (v := some (.int r1)) (M1 := gm M2) (a := 1) rfl rfl rfl cw_904 rfl (Nat.le_of_ble_eq_true rfl) rfl (Nat.le_of_ble_eq_true rfl) (qtp_byteAt_ok _ (by omega) he3) ?_
      by_cases h7 : (24 : Int32) < r1
      · rw [if_pos h7] at hs
        refine Rc.goL mt_512 3 (f2 := (if (24 : Int32) < r1 then 41 else 45, [.ref 244, .ref 1, .int x2, .long x3, UU, .int x5, .int x6, .int r1], [], gm M2)) (b := true) rfl rfl ?_
        rw [if_pos h7]
        refine Rc.goL mt_512 0 (f2 := (44, [.ref 244, .ref 1, .int x2, .long x3, UU, .int x5, .int x6, .int r1], [.long (-1000000000000 : Int64)], gm M2)) (b := true) rfl rfl ?_
        obtain ⟨e1, e2⟩ := some_p hs; subst e1; subst e2
        exact Rc.ret (v := some (.long (-1000000000000 : Int64))) rfl rfl
      · rw [if_neg h7] at hs
        refine Rc.goL mt_512 3 (f2 := (if (24 : Int32) < r1 then 41 else 45, [.ref 244, .ref 1, .int x2, .long x3, UU, .int x5, .int x6, .int r1], [], gm M2)) (b := true) rfl rfl ?_
        rw [if_neg h7]
        refine Rc.goL mt_512 3 (f2 := (51, [.ref 244, .ref 1, .int x2, .long x3, UU, .int x5, .int x6, .int r1], [.int r1, .int x6, .ref 244, .long x3], gm M2)) (b := true) rfl rfl ?_
        obtain ⟨r4, M5, he6, hs⟩ := ob_some hs
        refine Rc.callV (i := 42) (mid' := 504) (av := [.int x6, .int r1]) (rest := [.long x3]) (v := some (.long r4)) (M1 := gm M5) (a := 244) rfl rfl rfl cw_504 rfl (Nat.le_of_ble_eq_true rfl) rfl (Nat.le_of_ble_eq_true rfl) (qod_gainAt_ok _ (by omega) he6) ?_
        refine Rc.goL mt_512 6 (f2 := (66, [.ref 244, .ref 1, .int x2, .long (x3 + r4), UU, .int (x5 + r1), .int (x6 + (1 : Int32)), .int r1], [], gm M5)) (b := true) rfl rfl ?_
        refine Rc.goL mt_512 0 (f2 := (20, [.ref 244, .ref 1, .int x2, .long (x3 + r4), UU, .int (x5 + r1), .int (x6 + (1 : Int32)), .int r1], [], gm M5)) (b := true) rfl rfl ?_
        refine Rc.less (ls2 := [.ref 244, .ref 1, .int x2, .long (x3 + r4), UU, .int (x5 + r1), .int (x6 + (1 : Int32)), UU]) (by refine ⟨Or.inr rfl, Or.inr rfl, Or.inr rfl, Or.inr rfl, Or.inl rfl, Or.inr rfl, Or.inr rfl, Or.inl rfl, trivial⟩) ?_
        exact ih x2 (x3 + r4) (x5 + r1) (x6 + (1 : Int32)) _ _ _ hs
    · rw [if_neg h8] at hs
      refine Rc.goL mt_512 2 (f2 := (if x6 < x2 then 26 else 69, [.ref 244, .ref 1, .int x2, .long x3, UU, .int x5, .int x6, UU], [], gm M)) (b := true) rfl rfl ?_
      rw [if_neg h8]
      refine Rc.less (ls2 := [.ref 244, UU, UU, .long x3, UU, .int x5, UU, UU]) (by refine ⟨Or.inr rfl, Or.inl rfl, Or.inl rfl, Or.inr rfl, Or.inl rfl, Or.inr rfl, Or.inl rfl, Or.inl rfl, trivial⟩) ?_
      exact hk69 x3 x5 _ _ _ hs
set_option maxRecDepth 20000 in
theorem qod_gainOfRow_ok (d : Nat) (hd : 2 ≤ d) {x2 : Int32} {M : SM} {r : Int64} {Mz : SM} (hs : qod_gainOfRow x2 M = some (r, Mz)) : Ex d 512 [.ref 244, .ref 1, .int x2] (gm M) (some (.long r), gm Mz) := by
  obtain ⟨d, rfl⟩ : ∃ d0, d = d0 + 1 := ⟨d - 1, by omega⟩
  refine Ex.of okm_512 (by omega) (Nat.le_of_ble_eq_true rfl) ?_
  show Rc (d + 1) 512 (0, [.ref 244, .ref 1, .int x2, UU, UU, UU, UU, UU], [], gm M) _
  unfold qod_gainOfRow at hs
  by_cases h13 : x2 = (M.1 244 7)
  · rw [if_pos h13] at hs
    refine Rc.goL mt_512 3 (f2 := (if x2 = (M.1 244 7) then 12 else 8, [.ref 244, .ref 1, .int x2, UU, UU, UU, UU, UU], [], gm M)) (b := true) rfl rfl ?_
    rw [if_pos h13]
    refine Rc.goL mt_512 5 (f2 := (20, [.ref 244, .ref 1, .int x2, .long (0 : Int64), UU, .int (0 : Int32), .int (0 : Int32), UU], [], gm M)) (b := true) rfl rfl ?_
    refine Rc.less (ls2 := [.ref 244, .ref 1, .int x2, .long (0 : Int64), UU, .int (0 : Int32), .int (0 : Int32), UU]) (by refine ⟨Or.inr rfl, Or.inr rfl, Or.inr rfl, Or.inr rfl, Or.inl rfl, Or.inr rfl, Or.inr rfl, Or.inl rfl, trivial⟩) ?_
    refine qod_gainOfRow_L20_ok d hd _ (fun y3_9 y5_10 M11 r Mz hs => ?_) _ x2 (0 : Int64) (0 : Int32) (0 : Int32) _ _ _ hs
    · by_cases h12 : y5_10 = (M11.1 244 3)
      · rw [if_pos h12] at hs
        refine Rc.goL mt_512 3 (f2 := (if y5_10 = (M11.1 244 3) then 78 else 82, [.ref 244, UU, UU, .long y3_9, UU, .int y5_10, UU, UU], [], gm M11)) (b := true) rfl rfl ?_
        rw [if_pos h12]
        refine Rc.goL mt_512 1 (f2 := (85, [.ref 244, UU, UU, .long y3_9, UU, .int y5_10, UU, UU], [.long y3_9], gm M11)) (b := true) rfl rfl ?_
        obtain ⟨e1, e2⟩ := some_p hs; subst e1; subst e2
        exact Rc.ret (v := some (.long y3_9)) rfl rfl
      · rw [if_neg h12] at hs
        refine Rc.goL mt_512 3 (f2 := (if y5_10 = (M11.1 244 3) then 78 else 82, [.ref 244, UU, UU, .long y3_9, UU, .int y5_10, UU, UU], [], gm M11)) (b := true) rfl rfl ?_
        rw [if_neg h12]
        refine Rc.goL mt_512 0 (f2 := (85, [.ref 244, UU, UU, .long y3_9, UU, .int y5_10, UU, UU], [.long (-1000000000000 : Int64)], gm M11)) (b := true) rfl rfl ?_
        obtain ⟨e1, e2⟩ := some_p hs; subst e1; subst e2
        exact Rc.ret (v := some (.long (-1000000000000 : Int64))) rfl rfl
  · rw [if_neg h13] at hs
    refine Rc.goL mt_512 3 (f2 := (if x2 = (M.1 244 7) then 12 else 8, [.ref 244, .ref 1, .int x2, UU, UU, UU, UU, UU], [], gm M)) (b := true) rfl rfl ?_
    rw [if_neg h13]
    refine Rc.goL mt_512 0 (f2 := (11, [.ref 244, .ref 1, .int x2, UU, UU, UU, UU, UU], [.long (-1000000000000 : Int64)], gm M)) (b := true) rfl rfl ?_
    obtain ⟨e1, e2⟩ := some_p hs; subst e1; subst e2
    exact Rc.ret (v := some (.long (-1000000000000 : Int64))) rfl rfl
def qpr_nextList (M : SM) : Option (Option Nat × SM) :=
  if (M.1 12 2) < 0 then
  (some (none, M)) else
  (if (M.1 12 2) < (10 : Int32) then
    (ck (ib 10 (M.1 12 2) && true) (
      some ((some (15 + 16 * (Int32.toNatClampNeg (M.1 12 2)))), M))) else
    (some (none, M)))
theorem mt_601 : MT 601 K_601 LN_6 := ⟨rfl, rfl, by decide +kernel⟩
theorem okm_601 : OKm 601 := ⟨⟨vE_601, okL_6, by decide +kernel⟩, by decide +kernel, by decide +kernel, by decide +kernel⟩
set_option maxRecDepth 20000 in
theorem qpr_nextList_ok (d : Nat) (hd : 1 ≤ d) {M : SM} {r : Option Nat} {Mz : SM} (hs : qpr_nextList M = some (r, Mz)) : Ex d 601 [.ref 12] (gm M) (some (rv r), gm Mz) := by
  obtain ⟨d, rfl⟩ : ∃ d0, d = d0 + 1 := ⟨d - 1, by omega⟩
  refine Ex.of okm_601 (by omega) (Nat.le_of_ble_eq_true rfl) ?_
  show Rc (d + 1) 601 (0, [.ref 12], [], gm M) _
  unfold qpr_nextList at hs
  by_cases h3 : (M.1 12 2) < 0
  · rw [if_pos h3] at hs
    refine Rc.goL mt_601 2 (f2 := (if (M.1 12 2) < 0 then 31 else 7, [.ref 12], [], gm M)) (b := true) rfl rfl ?_
    rw [if_pos h3]
    refine Rc.goL mt_601 0 (f2 := (32, [.ref 12], [.null], gm M)) (b := true) rfl rfl ?_
    obtain ⟨e1, e2⟩ := some_p hs; subst e1; subst e2
    exact Rc.ret (v := some (rv none)) rfl rfl
  · rw [if_neg h3] at hs
    refine Rc.goL mt_601 2 (f2 := (if (M.1 12 2) < 0 then 31 else 7, [.ref 12], [], gm M)) (b := true) rfl rfl ?_
    rw [if_neg h3]
    by_cases h2 : (M.1 12 2) < (10 : Int32)
    · rw [if_pos h2] at hs
      refine Rc.goL mt_601 5 (f2 := (if (M.1 12 2) < (10 : Int32) then 19 else 31, [.ref 12], [], gm M)) (b := true) rfl rfl ?_
      rw [if_pos h2]
      obtain ⟨hb1, hs⟩ := ck_some hs
      refine Rc.goL mt_601 5 (f2 := (32, [.ref 12], [.ref (15 + 16 * (Int32.toNatClampNeg (M.1 12 2)))], gm M)) (b := (ib 10 (M.1 12 2) && true)) rfl hb1 ?_
      obtain ⟨e1, e2⟩ := some_p hs; subst e1; subst e2
      exact Rc.ret (v := some (rv (some (15 + 16 * (Int32.toNatClampNeg (M.1 12 2)))))) rfl rfl
    · rw [if_neg h2] at hs
      refine Rc.goL mt_601 5 (f2 := (if (M.1 12 2) < (10 : Int32) then 19 else 31, [.ref 12], [], gm M)) (b := true) rfl rfl ?_
      rw [if_neg h2]
      refine Rc.goL mt_601 0 (f2 := (32, [.ref 12], [.null], gm M)) (b := true) rfl rfl ?_
      obtain ⟨e1, e2⟩ := some_p hs; subst e1; subst e2
      exact Rc.ret (v := some (rv none)) rfl rfl
def qpr_nextAct (M : SM) : Option (Option Nat × SM) :=
  if (M.1 12 3) < 0 then
  (some (none, M)) else
  (if (M.1 12 3) < (10 : Int32) then
    (ck (ib 10 (M.1 12 3) && true) (
      some ((some (23 + 16 * (Int32.toNatClampNeg (M.1 12 3)))), M))) else
    (some (none, M)))
theorem mt_602 : MT 602 K_602 LN_6 := ⟨rfl, rfl, by decide +kernel⟩
theorem okm_602 : OKm 602 := ⟨⟨vE_602, okL_6, by decide +kernel⟩, by decide +kernel, by decide +kernel, by decide +kernel⟩
set_option maxRecDepth 20000 in
theorem qpr_nextAct_ok (d : Nat) (hd : 1 ≤ d) {M : SM} {r : Option Nat} {Mz : SM} (hs : qpr_nextAct M = some (r, Mz)) : Ex d 602 [.ref 12] (gm M) (some (rv r), gm Mz) := by
  obtain ⟨d, rfl⟩ : ∃ d0, d = d0 + 1 := ⟨d - 1, by omega⟩
  refine Ex.of okm_602 (by omega) (Nat.le_of_ble_eq_true rfl) ?_
  show Rc (d + 1) 602 (0, [.ref 12], [], gm M) _
  unfold qpr_nextAct at hs
  by_cases h3 : (M.1 12 3) < 0
  · rw [if_pos h3] at hs
    refine Rc.goL mt_602 2 (f2 := (if (M.1 12 3) < 0 then 31 else 7, [.ref 12], [], gm M)) (b := true) rfl rfl ?_
    rw [if_pos h3]
    refine Rc.goL mt_602 0 (f2 := (32, [.ref 12], [.null], gm M)) (b := true) rfl rfl ?_
    obtain ⟨e1, e2⟩ := some_p hs; subst e1; subst e2
    exact Rc.ret (v := some (rv none)) rfl rfl
  · rw [if_neg h3] at hs
    refine Rc.goL mt_602 2 (f2 := (if (M.1 12 3) < 0 then 31 else 7, [.ref 12], [], gm M)) (b := true) rfl rfl ?_
    rw [if_neg h3]
    by_cases h2 : (M.1 12 3) < (10 : Int32)
    · rw [if_pos h2] at hs
      refine Rc.goL mt_602 5 (f2 := (if (M.1 12 3) < (10 : Int32) then 19 else 31, [.ref 12], [], gm M)) (b := true) rfl rfl ?_
      rw [if_pos h2]
      obtain ⟨hb1, hs⟩ := ck_some hs
      refine Rc.goL mt_602 5 (f2 := (32, [.ref 12], [.ref (23 + 16 * (Int32.toNatClampNeg (M.1 12 3)))], gm M)) (b := (ib 10 (M.1 12 3) && true)) rfl hb1 ?_
      obtain ⟨e1, e2⟩ := some_p hs; subst e1; subst e2
      exact Rc.ret (v := some (rv (some (23 + 16 * (Int32.toNatClampNeg (M.1 12 3)))))) rfl rfl
    · rw [if_neg h2] at hs
      refine Rc.goL mt_602 5 (f2 := (if (M.1 12 3) < (10 : Int32) then 19 else 31, [.ref 12], [], gm M)) (b := true) rfl rfl ?_
      rw [if_neg h2]
      refine Rc.goL mt_602 0 (f2 := (32, [.ref 12], [.null], gm M)) (b := true) rfl rfl ?_
      obtain ⟨e1, e2⟩ := some_p hs; subst e1; subst e2
      exact Rc.ret (v := some (rv none)) rfl rfl
def qpr_keepList (M : SM) : Option (Int32 × SM) :=
  some ((((M.1 12 2) + (1 : Int32)) - (1 : Int32)), (wI M 12 2 ((M.1 12 2) + (1 : Int32))))
theorem mt_603 : MT 603 K_603 LN_6 := ⟨rfl, rfl, by decide +kernel⟩
theorem okm_603 : OKm 603 := ⟨⟨vE_603, okL_6, by decide +kernel⟩, by decide +kernel, by decide +kernel, by decide +kernel⟩
set_option maxRecDepth 20000 in
theorem qpr_keepList_ok (d : Nat) (hd : 1 ≤ d) {M : SM} {r : Int32} {Mz : SM} (hs : qpr_keepList M = some (r, Mz)) : Ex d 603 [.ref 12] (gm M) (some (.int r), gm Mz) := by
  obtain ⟨d, rfl⟩ : ∃ d0, d = d0 + 1 := ⟨d - 1, by omega⟩
  refine Ex.of okm_603 (by omega) (Nat.le_of_ble_eq_true rfl) ?_
  show Rc (d + 1) 603 (0, [.ref 12], [], gm M) _
  unfold qpr_keepList at hs
  refine Rc.goL mt_603 5 (f2 := (10, [.ref 12], [], gm (wI M 12 2 ((M.1 12 2) + (1 : Int32))))) (b := true) rfl rfl ?_
  refine Rc.goL mt_603 3 (f2 := (16, [.ref 12], [.int (((M.1 12 2) + (1 : Int32)) - (1 : Int32))], gm (wI M 12 2 ((M.1 12 2) + (1 : Int32))))) (b := true) rfl rfl ?_
  obtain ⟨e1, e2⟩ := some_p hs; subst e1; subst e2
  exact Rc.ret (v := some (.int (((M.1 12 2) + (1 : Int32)) - (1 : Int32)))) rfl rfl
def qpr_keepAct (M : SM) : Option (Int32 × SM) :=
  some ((((M.1 12 3) + (1 : Int32)) - (1 : Int32)), (wI M 12 3 ((M.1 12 3) + (1 : Int32))))
theorem mt_604 : MT 604 K_604 LN_6 := ⟨rfl, rfl, by decide +kernel⟩
theorem okm_604 : OKm 604 := ⟨⟨vE_604, okL_6, by decide +kernel⟩, by decide +kernel, by decide +kernel, by decide +kernel⟩
set_option maxRecDepth 20000 in
theorem qpr_keepAct_ok (d : Nat) (hd : 1 ≤ d) {M : SM} {r : Int32} {Mz : SM} (hs : qpr_keepAct M = some (r, Mz)) : Ex d 604 [.ref 12] (gm M) (some (.int r), gm Mz) := by
  obtain ⟨d, rfl⟩ : ∃ d0, d = d0 + 1 := ⟨d - 1, by omega⟩
  refine Ex.of okm_604 (by omega) (Nat.le_of_ble_eq_true rfl) ?_
  show Rc (d + 1) 604 (0, [.ref 12], [], gm M) _
  unfold qpr_keepAct at hs
  refine Rc.goL mt_604 5 (f2 := (10, [.ref 12], [], gm (wI M 12 3 ((M.1 12 3) + (1 : Int32))))) (b := true) rfl rfl ?_
  refine Rc.goL mt_604 3 (f2 := (16, [.ref 12], [.int (((M.1 12 3) + (1 : Int32)) - (1 : Int32))], gm (wI M 12 3 ((M.1 12 3) + (1 : Int32))))) (b := true) rfl rfl ?_
  obtain ⟨e1, e2⟩ := some_p hs; subst e1; subst e2
  exact Rc.ret (v := some (.int (((M.1 12 3) + (1 : Int32)) - (1 : Int32)))) rfl rfl
def qpr_listAt (x1 : Int32) (M : SM) : Option (Option Nat × SM) :=
  if x1 < 0 then
  (some (none, M)) else
  (if x1 < (M.1 12 2) then
    (if x1 < (10 : Int32) then
      (ck (ib 10 x1 && true) (
        some ((some (15 + 16 * (Int32.toNatClampNeg x1))), M))) else
      (some (none, M))) else
    (some (none, M)))
theorem mt_605 : MT 605 K_605 LN_6 := ⟨rfl, rfl, by decide +kernel⟩
theorem okm_605 : OKm 605 := ⟨⟨vE_605, okL_6, by decide +kernel⟩, by decide +kernel, by decide +kernel, by decide +kernel⟩
set_option maxRecDepth 20000 in
theorem qpr_listAt_ok (d : Nat) (hd : 1 ≤ d) {x1 : Int32} {M : SM} {r : Option Nat} {Mz : SM} (hs : qpr_listAt x1 M = some (r, Mz)) : Ex d 605 [.ref 12, .int x1] (gm M) (some (rv r), gm Mz) := by
  obtain ⟨d, rfl⟩ : ∃ d0, d = d0 + 1 := ⟨d - 1, by omega⟩
  refine Ex.of okm_605 (by omega) (Nat.le_of_ble_eq_true rfl) ?_
  show Rc (d + 1) 605 (0, [.ref 12, .int x1], [], gm M) _
  unfold qpr_listAt at hs
  by_cases h4 : x1 < 0
  · rw [if_pos h4] at hs
    refine Rc.goL mt_605 1 (f2 := (if x1 < 0 then 30 else 4, [.ref 12, .int x1], [], gm M)) (b := true) rfl rfl ?_
    rw [if_pos h4]
    refine Rc.goL mt_605 0 (f2 := (31, [.ref 12, .int x1], [.null], gm M)) (b := true) rfl rfl ?_
    obtain ⟨e1, e2⟩ := some_p hs; subst e1; subst e2
    exact Rc.ret (v := some (rv none)) rfl rfl
  · rw [if_neg h4] at hs
    refine Rc.goL mt_605 1 (f2 := (if x1 < 0 then 30 else 4, [.ref 12, .int x1], [], gm M)) (b := true) rfl rfl ?_
    rw [if_neg h4]
    by_cases h3 : x1 < (M.1 12 2)
    · rw [if_pos h3] at hs
      refine Rc.goL mt_605 3 (f2 := (if x1 < (M.1 12 2) then 12 else 30, [.ref 12, .int x1], [], gm M)) (b := true) rfl rfl ?_
      rw [if_pos h3]
      by_cases h2 : x1 < (10 : Int32)
      · rw [if_pos h2] at hs
        refine Rc.goL mt_605 4 (f2 := (if x1 < (10 : Int32) then 21 else 30, [.ref 12, .int x1], [], gm M)) (b := true) rfl rfl ?_
        rw [if_pos h2]
        obtain ⟨hb1, hs⟩ := ck_some hs
        refine Rc.goL mt_605 4 (f2 := (31, [.ref 12, .int x1], [.ref (15 + 16 * (Int32.toNatClampNeg x1))], gm M)) (b := (ib 10 x1 && true)) rfl hb1 ?_
        obtain ⟨e1, e2⟩ := some_p hs; subst e1; subst e2
        exact Rc.ret (v := some (rv (some (15 + 16 * (Int32.toNatClampNeg x1))))) rfl rfl
      · rw [if_neg h2] at hs
        refine Rc.goL mt_605 4 (f2 := (if x1 < (10 : Int32) then 21 else 30, [.ref 12, .int x1], [], gm M)) (b := true) rfl rfl ?_
        rw [if_neg h2]
        refine Rc.goL mt_605 0 (f2 := (31, [.ref 12, .int x1], [.null], gm M)) (b := true) rfl rfl ?_
        obtain ⟨e1, e2⟩ := some_p hs; subst e1; subst e2
        exact Rc.ret (v := some (rv none)) rfl rfl
    · rw [if_neg h3] at hs
      refine Rc.goL mt_605 3 (f2 := (if x1 < (M.1 12 2) then 12 else 30, [.ref 12, .int x1], [], gm M)) (b := true) rfl rfl ?_
      rw [if_neg h3]
      refine Rc.goL mt_605 0 (f2 := (31, [.ref 12, .int x1], [.null], gm M)) (b := true) rfl rfl ?_
      obtain ⟨e1, e2⟩ := some_p hs; subst e1; subst e2
      exact Rc.ret (v := some (rv none)) rfl rfl
def qpr_actAt (x1 : Int32) (M : SM) : Option (Option Nat × SM) :=
  if x1 < 0 then
  (some (none, M)) else
  (if x1 < (M.1 12 3) then
    (if x1 < (10 : Int32) then
      (ck (ib 10 x1 && true) (
        some ((some (23 + 16 * (Int32.toNatClampNeg x1))), M))) else
      (some (none, M))) else
    (some (none, M)))
theorem mt_606 : MT 606 K_606 LN_6 := ⟨rfl, rfl, by decide +kernel⟩
theorem okm_606 : OKm 606 := ⟨⟨vE_606, okL_6, by decide +kernel⟩, by decide +kernel, by decide +kernel, by decide +kernel⟩
set_option maxRecDepth 20000 in
theorem qpr_actAt_ok (d : Nat) (hd : 1 ≤ d) {x1 : Int32} {M : SM} {r : Option Nat} {Mz : SM} (hs : qpr_actAt x1 M = some (r, Mz)) : Ex d 606 [.ref 12, .int x1] (gm M) (some (rv r), gm Mz) := by
  obtain ⟨d, rfl⟩ : ∃ d0, d = d0 + 1 := ⟨d - 1, by omega⟩
  refine Ex.of okm_606 (by omega) (Nat.le_of_ble_eq_true rfl) ?_
  show Rc (d + 1) 606 (0, [.ref 12, .int x1], [], gm M) _
  unfold qpr_actAt at hs
  by_cases h4 : x1 < 0
  · rw [if_pos h4] at hs
    refine Rc.goL mt_606 1 (f2 := (if x1 < 0 then 30 else 4, [.ref 12, .int x1], [], gm M)) (b := true) rfl rfl ?_
    rw [if_pos h4]
    refine Rc.goL mt_606 0 (f2 := (31, [.ref 12, .int x1], [.null], gm M)) (b := true) rfl rfl ?_
    obtain ⟨e1, e2⟩ := some_p hs; subst e1; subst e2
    exact Rc.ret (v := some (rv none)) rfl rfl
  · rw [if_neg h4] at hs
    refine Rc.goL mt_606 1 (f2 := (if x1 < 0 then 30 else 4, [.ref 12, .int x1], [], gm M)) (b := true) rfl rfl ?_
    rw [if_neg h4]
    by_cases h3 : x1 < (M.1 12 3)
    · rw [if_pos h3] at hs
      refine Rc.goL mt_606 3 (f2 := (if x1 < (M.1 12 3) then 12 else 30, [.ref 12, .int x1], [], gm M)) (b := true) rfl rfl ?_
      rw [if_pos h3]
      by_cases h2 : x1 < (10 : Int32)
      · rw [if_pos h2] at hs
        refine Rc.goL mt_606 4 (f2 := (if x1 < (10 : Int32) then 21 else 30, [.ref 12, .int x1], [], gm M)) (b := true) rfl rfl ?_
        rw [if_pos h2]
        obtain ⟨hb1, hs⟩ := ck_some hs
        refine Rc.goL mt_606 4 (f2 := (31, [.ref 12, .int x1], [.ref (23 + 16 * (Int32.toNatClampNeg x1))], gm M)) (b := (ib 10 x1 && true)) rfl hb1 ?_
        obtain ⟨e1, e2⟩ := some_p hs; subst e1; subst e2
        exact Rc.ret (v := some (rv (some (23 + 16 * (Int32.toNatClampNeg x1))))) rfl rfl
      · rw [if_neg h2] at hs
        refine Rc.goL mt_606 4 (f2 := (if x1 < (10 : Int32) then 21 else 30, [.ref 12, .int x1], [], gm M)) (b := true) rfl rfl ?_
        rw [if_neg h2]
        refine Rc.goL mt_606 0 (f2 := (31, [.ref 12, .int x1], [.null], gm M)) (b := true) rfl rfl ?_
        obtain ⟨e1, e2⟩ := some_p hs; subst e1; subst e2
        exact Rc.ret (v := some (rv none)) rfl rfl
    · rw [if_neg h3] at hs
      refine Rc.goL mt_606 3 (f2 := (if x1 < (M.1 12 3) then 12 else 30, [.ref 12, .int x1], [], gm M)) (b := true) rfl rfl ?_
      rw [if_neg h3]
      refine Rc.goL mt_606 0 (f2 := (31, [.ref 12, .int x1], [.null], gm M)) (b := true) rfl rfl ?_
      obtain ⟨e1, e2⟩ := some_p hs; subst e1; subst e2
      exact Rc.ret (v := some (rv none)) rfl rfl
def qpr_setFact (x1 : Int32) (x2 : Int32) (M : SM) : Option (Unit × SM) :=
  if x1 < 0 then
  (some ((), M)) else
  (if x1 < (10 : Int32) then
    (ck (ib 10 x1 && true) (
      some ((), (wL M 175 (Int32.toNatClampNeg x1) (Int32.toInt64 x2))))) else
    (some ((), M)))
theorem mt_607 : MT 607 K_607 LN_6 := ⟨rfl, rfl, by decide +kernel⟩
theorem okm_607 : OKm 607 := ⟨⟨vE_607, okL_6, by decide +kernel⟩, by decide +kernel, by decide +kernel, by decide +kernel⟩
set_option maxRecDepth 20000 in
theorem qpr_setFact_ok (d : Nat) (hd : 1 ≤ d) {x1 : Int32} {x2 : Int32} {M : SM} {r : Unit} {Mz : SM} (hs : qpr_setFact x1 x2 M = some (r, Mz)) : Ex d 607 [.ref 12, .int x1, .int x2] (gm M) (none, gm Mz) := by
  obtain ⟨d, rfl⟩ : ∃ d0, d = d0 + 1 := ⟨d - 1, by omega⟩
  refine Ex.of okm_607 (by omega) (Nat.le_of_ble_eq_true rfl) ?_
  show Rc (d + 1) 607 (0, [.ref 12, .int x1, .int x2], [], gm M) _
  unfold qpr_setFact at hs
  by_cases h3 : x1 < 0
  · rw [if_pos h3] at hs
    refine Rc.goL mt_607 1 (f2 := (if x1 < 0 then 21 else 4, [.ref 12, .int x1, .int x2], [], gm M)) (b := true) rfl rfl ?_
    rw [if_pos h3]
    obtain ⟨e1, e2⟩ := some_p hs; subst e1; subst e2
    exact Rc.ret (v := none) rfl rfl
  · rw [if_neg h3] at hs
    refine Rc.goL mt_607 1 (f2 := (if x1 < 0 then 21 else 4, [.ref 12, .int x1, .int x2], [], gm M)) (b := true) rfl rfl ?_
    rw [if_neg h3]
    by_cases h2 : x1 < (10 : Int32)
    · rw [if_pos h2] at hs
      refine Rc.goL mt_607 4 (f2 := (if x1 < (10 : Int32) then 13 else 21, [.ref 12, .int x1, .int x2], [], gm M)) (b := true) rfl rfl ?_
      rw [if_pos h2]
      obtain ⟨hb1, hs⟩ := ck_some hs
      refine Rc.goL mt_607 5 (f2 := (21, [.ref 12, .int x1, .int x2], [], gm (wL M 175 (Int32.toNatClampNeg x1) (Int32.toInt64 x2)))) (b := (ib 10 x1 && true)) rfl hb1 ?_
      obtain ⟨e1, e2⟩ := some_p hs; subst e1; subst e2
      exact Rc.ret (v := none) rfl rfl
    · rw [if_neg h2] at hs
      refine Rc.goL mt_607 4 (f2 := (if x1 < (10 : Int32) then 13 else 21, [.ref 12, .int x1, .int x2], [], gm M)) (b := true) rfl rfl ?_
      rw [if_neg h2]
      obtain ⟨e1, e2⟩ := some_p hs; subst e1; subst e2
      exact Rc.ret (v := none) rfl rfl
def qpr_factAt (x1 : Int32) (M : SM) : Option (Int64 × SM) :=
  if x1 < 0 then
  (some ((0 : Int64), M)) else
  (if x1 < (10 : Int32) then
    (ck (ib 10 x1 && true) (
      some ((M.2 175 (Int32.toNatClampNeg x1)), M))) else
    (some ((0 : Int64), M)))
theorem mt_608 : MT 608 K_608 LN_6 := ⟨rfl, rfl, by decide +kernel⟩
theorem okm_608 : OKm 608 := ⟨⟨vE_608, okL_6, by decide +kernel⟩, by decide +kernel, by decide +kernel, by decide +kernel⟩
set_option maxRecDepth 20000 in
theorem qpr_factAt_ok (d : Nat) (hd : 1 ≤ d) {x1 : Int32} {M : SM} {r : Int64} {Mz : SM} (hs : qpr_factAt x1 M = some (r, Mz)) : Ex d 608 [.ref 12, .int x1] (gm M) (some (.long r), gm Mz) := by
  obtain ⟨d, rfl⟩ : ∃ d0, d = d0 + 1 := ⟨d - 1, by omega⟩
  refine Ex.of okm_608 (by omega) (Nat.le_of_ble_eq_true rfl) ?_
  show Rc (d + 1) 608 (0, [.ref 12, .int x1], [], gm M) _
  unfold qpr_factAt at hs
  by_cases h3 : x1 < 0
  · rw [if_pos h3] at hs
    refine Rc.goL mt_608 1 (f2 := (if x1 < 0 then 22 else 4, [.ref 12, .int x1], [], gm M)) (b := true) rfl rfl ?_
    rw [if_pos h3]
    refine Rc.goL mt_608 0 (f2 := (23, [.ref 12, .int x1], [.long (0 : Int64)], gm M)) (b := true) rfl rfl ?_
    obtain ⟨e1, e2⟩ := some_p hs; subst e1; subst e2
    exact Rc.ret (v := some (.long (0 : Int64))) rfl rfl
  · rw [if_neg h3] at hs
    refine Rc.goL mt_608 1 (f2 := (if x1 < 0 then 22 else 4, [.ref 12, .int x1], [], gm M)) (b := true) rfl rfl ?_
    rw [if_neg h3]
    by_cases h2 : x1 < (10 : Int32)
    · rw [if_pos h2] at hs
      refine Rc.goL mt_608 4 (f2 := (if x1 < (10 : Int32) then 13 else 22, [.ref 12, .int x1], [], gm M)) (b := true) rfl rfl ?_
      rw [if_pos h2]
      obtain ⟨hb1, hs⟩ := ck_some hs
      refine Rc.goL mt_608 4 (f2 := (23, [.ref 12, .int x1], [.long (M.2 175 (Int32.toNatClampNeg x1))], gm M)) (b := (ib 10 x1 && true)) rfl hb1 ?_
      obtain ⟨e1, e2⟩ := some_p hs; subst e1; subst e2
      exact Rc.ret (v := some (.long (M.2 175 (Int32.toNatClampNeg x1)))) rfl rfl
    · rw [if_neg h2] at hs
      refine Rc.goL mt_608 4 (f2 := (if x1 < (10 : Int32) then 13 else 22, [.ref 12, .int x1], [], gm M)) (b := true) rfl rfl ?_
      rw [if_neg h2]
      refine Rc.goL mt_608 0 (f2 := (23, [.ref 12, .int x1], [.long (0 : Int64)], gm M)) (b := true) rfl rfl ?_
      obtain ⟨e1, e2⟩ := some_p hs; subst e1; subst e2
      exact Rc.ret (v := some (.long (0 : Int64))) rfl rfl
def qpr_letterAt (x1 : Int32) (M : SM) : Option (Int64 × SM) :=
  if x1 < 0 then
  (some ((0 : Int64), M)) else
  (if x1 < (26 : Int32) then
    (ck (ib 26 x1 && true) (
      some ((M.2 176 (Int32.toNatClampNeg x1)), M))) else
    (some ((0 : Int64), M)))
theorem mt_609 : MT 609 K_609 LN_6 := ⟨rfl, rfl, by decide +kernel⟩
theorem okm_609 : OKm 609 := ⟨⟨vE_609, okL_6, by decide +kernel⟩, by decide +kernel, by decide +kernel, by decide +kernel⟩
set_option maxRecDepth 20000 in
theorem qpr_letterAt_ok (d : Nat) (hd : 1 ≤ d) {x1 : Int32} {M : SM} {r : Int64} {Mz : SM} (hs : qpr_letterAt x1 M = some (r, Mz)) : Ex d 609 [.ref 12, .int x1] (gm M) (some (.long r), gm Mz) := by
  obtain ⟨d, rfl⟩ : ∃ d0, d = d0 + 1 := ⟨d - 1, by omega⟩
  refine Ex.of okm_609 (by omega) (Nat.le_of_ble_eq_true rfl) ?_
  show Rc (d + 1) 609 (0, [.ref 12, .int x1], [], gm M) _
  unfold qpr_letterAt at hs
  by_cases h3 : x1 < 0
  · rw [if_pos h3] at hs
    refine Rc.goL mt_609 1 (f2 := (if x1 < 0 then 22 else 4, [.ref 12, .int x1], [], gm M)) (b := true) rfl rfl ?_
    rw [if_pos h3]
    refine Rc.goL mt_609 0 (f2 := (23, [.ref 12, .int x1], [.long (0 : Int64)], gm M)) (b := true) rfl rfl ?_
    obtain ⟨e1, e2⟩ := some_p hs; subst e1; subst e2
    exact Rc.ret (v := some (.long (0 : Int64))) rfl rfl
  · rw [if_neg h3] at hs
    refine Rc.goL mt_609 1 (f2 := (if x1 < 0 then 22 else 4, [.ref 12, .int x1], [], gm M)) (b := true) rfl rfl ?_
    rw [if_neg h3]
    by_cases h2 : x1 < (26 : Int32)
    · rw [if_pos h2] at hs
      refine Rc.goL mt_609 4 (f2 := (if x1 < (26 : Int32) then 13 else 22, [.ref 12, .int x1], [], gm M)) (b := true) rfl rfl ?_
      rw [if_pos h2]
      obtain ⟨hb1, hs⟩ := ck_some hs
      refine Rc.goL mt_609 4 (f2 := (23, [.ref 12, .int x1], [.long (M.2 176 (Int32.toNatClampNeg x1))], gm M)) (b := (ib 26 x1 && true)) rfl hb1 ?_
      obtain ⟨e1, e2⟩ := some_p hs; subst e1; subst e2
      exact Rc.ret (v := some (.long (M.2 176 (Int32.toNatClampNeg x1)))) rfl rfl
    · rw [if_neg h2] at hs
      refine Rc.goL mt_609 4 (f2 := (if x1 < (26 : Int32) then 13 else 22, [.ref 12, .int x1], [], gm M)) (b := true) rfl rfl ?_
      rw [if_neg h2]
      refine Rc.goL mt_609 0 (f2 := (23, [.ref 12, .int x1], [.long (0 : Int64)], gm M)) (b := true) rfl rfl ?_
      obtain ⟨e1, e2⟩ := some_p hs; subst e1; subst e2
      exact Rc.ret (v := some (.long (0 : Int64))) rfl rfl
def qpr_pop (M : SM) : Option (Int64 × SM) :=
  if 0 < (M.1 12 8) then
  (if (200 : Int32) < (M.1 12 8) then
    (some ((0 : Int64), M)) else
    (ck (ib 200 ((M.1 12 8) - (1 : Int32)) && true) (
      some ((M.2 178 (Int32.toNatClampNeg ((M.1 12 8) - (1 : Int32)))), (wI M 12 8 ((M.1 12 8) - (1 : Int32))))))) else
  (some ((0 : Int64), M))
theorem mt_621 : MT 621 K_621 LN_6 := ⟨rfl, rfl, by decide +kernel⟩
theorem okm_621 : OKm 621 := ⟨⟨vE_621, okL_6, by decide +kernel⟩, by decide +kernel, by decide +kernel, by decide +kernel⟩
set_option maxRecDepth 20000 in
theorem qpr_pop_ok (d : Nat) (hd : 1 ≤ d) {M : SM} {r : Int64} {Mz : SM} (hs : qpr_pop M = some (r, Mz)) : Ex d 621 [.ref 12] (gm M) (some (.long r), gm Mz) := by
  obtain ⟨d, rfl⟩ : ∃ d0, d = d0 + 1 := ⟨d - 1, by omega⟩
  refine Ex.of okm_621 (by omega) (Nat.le_of_ble_eq_true rfl) ?_
  show Rc (d + 1) 621 (0, [.ref 12], [], gm M) _
  unfold qpr_pop at hs
  by_cases h3 : 0 < (M.1 12 8)
  · rw [if_pos h3] at hs
    refine Rc.goL mt_621 2 (f2 := (if 0 < (M.1 12 8) then 7 else 19, [.ref 12], [], gm M)) (b := true) rfl rfl ?_
    rw [if_pos h3]
    by_cases h2 : (200 : Int32) < (M.1 12 8)
    · rw [if_pos h2] at hs
      refine Rc.goL mt_621 5 (f2 := (if (200 : Int32) < (M.1 12 8) then 19 else 21, [.ref 12], [], gm M)) (b := true) rfl rfl ?_
      rw [if_pos h2]
      refine Rc.goL mt_621 0 (f2 := (20, [.ref 12], [.long (0 : Int64)], gm M)) (b := true) rfl rfl ?_
      obtain ⟨e1, e2⟩ := some_p hs; subst e1; subst e2
      exact Rc.ret (v := some (.long (0 : Int64))) rfl rfl
    · rw [if_neg h2] at hs
      refine Rc.goL mt_621 5 (f2 := (if (200 : Int32) < (M.1 12 8) then 19 else 21, [.ref 12], [], gm M)) (b := true) rfl rfl ?_
      rw [if_neg h2]
      obtain ⟨hb1, hs⟩ := ck_some hs
      obtain ⟨hb1_0, hb1⟩ := and_t hb1
      refine Rc.goL mt_621 5 (f2 := (31, [.ref 12], [], gm (wI M 12 8 ((M.1 12 8) - (1 : Int32))))) (b := true) rfl rfl ?_
      refine Rc.goL mt_621 4 (f2 := (40, [.ref 12], [.long (M.2 178 (Int32.toNatClampNeg ((M.1 12 8) - (1 : Int32))))], gm (wI M 12 8 ((M.1 12 8) - (1 : Int32))))) (b := (ib 200 ((M.1 12 8) - (1 : Int32)) && true)) rfl (and_i hb1_0 rfl) ?_
      obtain ⟨e1, e2⟩ := some_p hs; subst e1; subst e2
      exact Rc.ret (v := some (.long (M.2 178 (Int32.toNatClampNeg ((M.1 12 8) - (1 : Int32)))))) rfl rfl
  · rw [if_neg h3] at hs
    refine Rc.goL mt_621 2 (f2 := (if 0 < (M.1 12 8) then 7 else 19, [.ref 12], [], gm M)) (b := true) rfl rfl ?_
    rw [if_neg h3]
    refine Rc.goL mt_621 0 (f2 := (20, [.ref 12], [.long (0 : Int64)], gm M)) (b := true) rfl rfl ?_
    obtain ⟨e1, e2⟩ := some_p hs; subst e1; subst e2
    exact Rc.ret (v := some (.long (0 : Int64))) rfl rfl
def qpr_push (x1 : Int64) (M : SM) : Option (Unit × SM) :=
  if (M.1 12 8) < 0 then
  (some ((), M)) else
  (if (M.1 12 8) < (200 : Int32) then
    (ck (ib 200 (M.1 12 8) && true) (
      some ((), (wI (wL M 178 (Int32.toNatClampNeg (M.1 12 8)) x1) 12 8 ((M.1 12 8) + (1 : Int32)))))) else
    (some ((), M)))
theorem mt_620 : MT 620 K_620 LN_6 := ⟨rfl, rfl, by decide +kernel⟩
theorem okm_620 : OKm 620 := ⟨⟨vE_620, okL_6, by decide +kernel⟩, by decide +kernel, by decide +kernel, by decide +kernel⟩
set_option maxRecDepth 20000 in
theorem qpr_push_ok (d : Nat) (hd : 1 ≤ d) {x1 : Int64} {M : SM} {r : Unit} {Mz : SM} (hs : qpr_push x1 M = some (r, Mz)) : Ex d 620 [.ref 12, .long x1] (gm M) (none, gm Mz) := by
  obtain ⟨d, rfl⟩ : ∃ d0, d = d0 + 1 := ⟨d - 1, by omega⟩
  refine Ex.of okm_620 (by omega) (Nat.le_of_ble_eq_true rfl) ?_
  show Rc (d + 1) 620 (0, [.ref 12, .long x1, UU], [], gm M) _
  unfold qpr_push at hs
  by_cases h3 : (M.1 12 8) < 0
  · rw [if_pos h3] at hs
    refine Rc.goL mt_620 2 (f2 := (if (M.1 12 8) < 0 then 19 else 7, [.ref 12, .long x1, UU], [], gm M)) (b := true) rfl rfl ?_
    rw [if_pos h3]
    obtain ⟨e1, e2⟩ := some_p hs; subst e1; subst e2
    exact Rc.ret (v := none) rfl rfl
  · rw [if_neg h3] at hs
    refine Rc.goL mt_620 2 (f2 := (if (M.1 12 8) < 0 then 19 else 7, [.ref 12, .long x1, UU], [], gm M)) (b := true) rfl rfl ?_
    rw [if_neg h3]
    by_cases h2 : (M.1 12 8) < (200 : Int32)
    · rw [if_pos h2] at hs
      refine Rc.goL mt_620 5 (f2 := (if (M.1 12 8) < (200 : Int32) then 20 else 19, [.ref 12, .long x1, UU], [], gm M)) (b := true) rfl rfl ?_
      rw [if_pos h2]
      obtain ⟨hb1, hs⟩ := ck_some hs
      obtain ⟨hb1_0, hb1⟩ := and_t hb1
      refine Rc.goL mt_620 5 (f2 := (30, [.ref 12, .long x1, UU], [], gm (wL M 178 (Int32.toNatClampNeg (M.1 12 8)) x1))) (b := (ib 200 (M.1 12 8) && true)) rfl (and_i hb1_0 rfl) ?_
      refine Rc.goL mt_620 5 (f2 := (40, [.ref 12, .long x1, UU], [], gm (wI (wL M 178 (Int32.toNatClampNeg (M.1 12 8)) x1) 12 8 ((M.1 12 8) + (1 : Int32))))) (b := true) rfl rfl ?_
      obtain ⟨e1, e2⟩ := some_p hs; subst e1; subst e2
      exact Rc.ret (v := none) rfl rfl
    · rw [if_neg h2] at hs
      refine Rc.goL mt_620 5 (f2 := (if (M.1 12 8) < (200 : Int32) then 20 else 19, [.ref 12, .long x1, UU], [], gm M)) (b := true) rfl rfl ?_
      rw [if_neg h2]
      obtain ⟨e1, e2⟩ := some_p hs; subst e1; subst e2
      exact Rc.ret (v := none) rfl rfl
def qpr_isSo (x0 : Int32) (x1 : Int64) (x3 : Int64) (M : SM) : Option (Int32 × SM) :=
  if x0 = (60 : Int32) then
  (if (lg_cmp x1 x3) < 0 then
    (some ((1 : Int32), M)) else
    (some ((0 : Int32), M))) else
  (if x0 = (62 : Int32) then
    (if 0 < (lg_cmp x1 x3) then
      (some ((1 : Int32), M)) else
      (some ((0 : Int32), M))) else
    (if (lg_cmp x1 x3) = 0 then
      (some ((1 : Int32), M)) else
      (some ((0 : Int32), M))))
theorem mt_623 : MT 623 K_623 LN_6 := ⟨rfl, rfl, by decide +kernel⟩
theorem okm_623 : OKm 623 := ⟨⟨vE_623, okL_6, by decide +kernel⟩, by decide +kernel, by decide +kernel, by decide +kernel⟩
set_option maxRecDepth 20000 in
theorem qpr_isSo_ok (d : Nat) (hd : 1 ≤ d) {x0 : Int32} {x1 : Int64} {x3 : Int64} {M : SM} {r : Int32} {Mz : SM} (hs : qpr_isSo x0 x1 x3 M = some (r, Mz)) : Ex d 623 [.int x0, .long x1, .long x3] (gm M) (some (.int r), gm Mz) := by
  obtain ⟨d, rfl⟩ : ∃ d0, d = d0 + 1 := ⟨d - 1, by omega⟩
  refine Ex.of okm_623 (by omega) (Nat.le_of_ble_eq_true rfl) ?_
  show Rc (d + 1) 623 (0, [.int x0, .long x1, UU, .long x3, UU], [], gm M) _
  unfold qpr_isSo at hs
  by_cases h5 : x0 = (60 : Int32)
  · rw [if_pos h5] at hs
    refine Rc.goL mt_623 2 (f2 := (if x0 = (60 : Int32) then 6 else 18, [.int x0, .long x1, UU, .long x3, UU], [], gm M)) (b := true) rfl rfl ?_
    rw [if_pos h5]
    by_cases h1 : (lg_cmp x1 x3) < 0
    · rw [if_pos h1] at hs
      refine Rc.goL mt_623 3 (f2 := (if (lg_cmp x1 x3) < 0 then 12 else 16, [.int x0, .long x1, UU, .long x3, UU], [], gm M)) (b := true) rfl rfl ?_
      rw [if_pos h1]
      refine Rc.goL mt_623 1 (f2 := (17, [.int x0, .long x1, UU, .long x3, UU], [.int (1 : Int32)], gm M)) (b := true) rfl rfl ?_
      obtain ⟨e1, e2⟩ := some_p hs; subst e1; subst e2
      exact Rc.ret (v := some (.int (1 : Int32))) rfl rfl
    · rw [if_neg h1] at hs
      refine Rc.goL mt_623 3 (f2 := (if (lg_cmp x1 x3) < 0 then 12 else 16, [.int x0, .long x1, UU, .long x3, UU], [], gm M)) (b := true) rfl rfl ?_
      rw [if_neg h1]
      refine Rc.goL mt_623 0 (f2 := (17, [.int x0, .long x1, UU, .long x3, UU], [.int (0 : Int32)], gm M)) (b := true) rfl rfl ?_
      obtain ⟨e1, e2⟩ := some_p hs; subst e1; subst e2
      exact Rc.ret (v := some (.int (0 : Int32))) rfl rfl
  · rw [if_neg h5] at hs
    refine Rc.goL mt_623 2 (f2 := (if x0 = (60 : Int32) then 6 else 18, [.int x0, .long x1, UU, .long x3, UU], [], gm M)) (b := true) rfl rfl ?_
    rw [if_neg h5]
    by_cases h4 : x0 = (62 : Int32)
    · rw [if_pos h4] at hs
      refine Rc.goL mt_623 2 (f2 := (if x0 = (62 : Int32) then 24 else 36, [.int x0, .long x1, UU, .long x3, UU], [], gm M)) (b := true) rfl rfl ?_
      rw [if_pos h4]
      by_cases h2 : 0 < (lg_cmp x1 x3)
      · rw [if_pos h2] at hs
        refine Rc.goL mt_623 3 (f2 := (if 0 < (lg_cmp x1 x3) then 30 else 34, [.int x0, .long x1, UU, .long x3, UU], [], gm M)) (b := true) rfl rfl ?_
        rw [if_pos h2]
        refine Rc.goL mt_623 1 (f2 := (35, [.int x0, .long x1, UU, .long x3, UU], [.int (1 : Int32)], gm M)) (b := true) rfl rfl ?_
        obtain ⟨e1, e2⟩ := some_p hs; subst e1; subst e2
        exact Rc.ret (v := some (.int (1 : Int32))) rfl rfl
      · rw [if_neg h2] at hs
        refine Rc.goL mt_623 3 (f2 := (if 0 < (lg_cmp x1 x3) then 30 else 34, [.int x0, .long x1, UU, .long x3, UU], [], gm M)) (b := true) rfl rfl ?_
        rw [if_neg h2]
        refine Rc.goL mt_623 0 (f2 := (35, [.int x0, .long x1, UU, .long x3, UU], [.int (0 : Int32)], gm M)) (b := true) rfl rfl ?_
        obtain ⟨e1, e2⟩ := some_p hs; subst e1; subst e2
        exact Rc.ret (v := some (.int (0 : Int32))) rfl rfl
    · rw [if_neg h4] at hs
      refine Rc.goL mt_623 2 (f2 := (if x0 = (62 : Int32) then 24 else 36, [.int x0, .long x1, UU, .long x3, UU], [], gm M)) (b := true) rfl rfl ?_
      rw [if_neg h4]
      by_cases h3 : (lg_cmp x1 x3) = 0
      · rw [if_pos h3] at hs
        refine Rc.goL mt_623 3 (f2 := (if (lg_cmp x1 x3) = 0 then 42 else 46, [.int x0, .long x1, UU, .long x3, UU], [], gm M)) (b := true) rfl rfl ?_
        rw [if_pos h3]
        refine Rc.goL mt_623 1 (f2 := (47, [.int x0, .long x1, UU, .long x3, UU], [.int (1 : Int32)], gm M)) (b := true) rfl rfl ?_
        obtain ⟨e1, e2⟩ := some_p hs; subst e1; subst e2
        exact Rc.ret (v := some (.int (1 : Int32))) rfl rfl
      · rw [if_neg h3] at hs
        refine Rc.goL mt_623 3 (f2 := (if (lg_cmp x1 x3) = 0 then 42 else 46, [.int x0, .long x1, UU, .long x3, UU], [], gm M)) (b := true) rfl rfl ?_
        rw [if_neg h3]
        refine Rc.goL mt_623 0 (f2 := (47, [.int x0, .long x1, UU, .long x3, UU], [.int (0 : Int32)], gm M)) (b := true) rfl rfl ?_
        obtain ⟨e1, e2⟩ := some_p hs; subst e1; subst e2
        exact Rc.ret (v := some (.int (0 : Int32))) rfl rfl
def qpr_joined (x0 : Int32) (x1 : Int64) (x3 : Int64) (M : SM) : Option (Int64 × SM) :=
  if x0 = (37 : Int32) then
  (if (lg_cmp x3 (0 : Int64)) = 0 then
    (some ((0 : Int64), M)) else
    (ck (decide (¬ x3 = 0) && true) (
      some ((x1 - x1 / x3 * x3), M)))) else
  (if x0 = (42 : Int32) then
  (some ((x1 * x3), M)) else
  (if x0 = (43 : Int32) then
  (some ((x1 + x3), M)) else
  (if x0 = (45 : Int32) then
  (some ((x1 - x3), M)) else
  (if x0 = (47 : Int32) then
  (if (lg_cmp x3 (0 : Int64)) = 0 then
    (some ((0 : Int64), M)) else
    (ck (decide (¬ x3 = 0) && true) (
      some ((x1 / x3), M)))) else
  (if x0 = (95 : Int32) then
  (some ((lmn x1 x3), M)) else
  (some ((lmx x1 x3), M)))))))
theorem mt_624 : MT 624 K_624 LN_6 := ⟨rfl, rfl, by decide +kernel⟩
theorem okm_624 : OKm 624 := ⟨⟨vE_624, okL_6, by decide +kernel⟩, by decide +kernel, by decide +kernel, by decide +kernel⟩
set_option maxRecDepth 20000 in
theorem qpr_joined_ok (d : Nat) (hd : 1 ≤ d) {x0 : Int32} {x1 : Int64} {x3 : Int64} {M : SM} {r : Int64} {Mz : SM} (hs : qpr_joined x0 x1 x3 M = some (r, Mz)) : Ex d 624 [.int x0, .long x1, .long x3] (gm M) (some (.long r), gm Mz) := by
  obtain ⟨d, rfl⟩ : ∃ d0, d = d0 + 1 := ⟨d - 1, by omega⟩
  refine Ex.of okm_624 (by omega) (Nat.le_of_ble_eq_true rfl) ?_
  show Rc (d + 1) 624 (0, [.int x0, .long x1, UU, .long x3, UU], [], gm M) _
  unfold qpr_joined at hs
  refine Rc.goL mt_624 1 (f2 := (swl [(37, 86), (42, 68), (43, 60), (45, 64), (47, 72), (95, 100)] 106 x0, [.int x0, .long x1, UU, .long x3, UU], [], gm M)) (b := true) rfl rfl ?_
  by_cases h3 : x0 = (37 : Int32)
  · rw [if_pos h3] at hs
    rw [show swl [(37, 86), (42, 68), (43, 60), (45, 64), (47, 72), (95, 100)] 106 x0 = 86 by first | (simp only [swl, if_pos h3]; done) | (rw [h3]; decide)]
    by_cases h2 : (lg_cmp x3 (0 : Int64)) = 0
    · rw [if_pos h2] at hs
      refine Rc.goL mt_624 3 (f2 := (if (lg_cmp x3 (0 : Int64)) = 0 then 92 else 96, [.int x0, .long x1, UU, .long x3, UU], [], gm M)) (b := true) rfl rfl ?_
      rw [if_pos h2]
      refine Rc.goL mt_624 1 (f2 := (99, [.int x0, .long x1, UU, .long x3, UU], [.long (0 : Int64)], gm M)) (b := true) rfl rfl ?_
      obtain ⟨e1, e2⟩ := some_p hs; subst e1; subst e2
      exact Rc.ret (v := some (.long (0 : Int64))) rfl rfl
    · rw [if_neg h2] at hs
      refine Rc.goL mt_624 3 (f2 := (if (lg_cmp x3 (0 : Int64)) = 0 then 92 else 96, [.int x0, .long x1, UU, .long x3, UU], [], gm M)) (b := true) rfl rfl ?_
      rw [if_neg h2]
      obtain ⟨hb1, hs⟩ := ck_some hs
      refine Rc.goL mt_624 2 (f2 := (99, [.int x0, .long x1, UU, .long x3, UU], [.long (x1 - x1 / x3 * x3)], gm M)) (b := (decide (¬ x3 = 0) && true)) rfl hb1 ?_
      obtain ⟨e1, e2⟩ := some_p hs; subst e1; subst e2
      exact Rc.ret (v := some (.long (x1 - x1 / x3 * x3))) rfl rfl
  · rw [if_neg h3] at hs
    by_cases h4 : x0 = (42 : Int32)
    · rw [if_pos h4] at hs
      rw [show swl [(37, 86), (42, 68), (43, 60), (45, 64), (47, 72), (95, 100)] 106 x0 = 68 by first | (simp only [swl, if_pos h4]; done) | (rw [h4]; decide)]
      refine Rc.goL mt_624 2 (f2 := (71, [.int x0, .long x1, UU, .long x3, UU], [.long (x1 * x3)], gm M)) (b := true) rfl rfl ?_
      obtain ⟨e1, e2⟩ := some_p hs; subst e1; subst e2
      exact Rc.ret (v := some (.long (x1 * x3))) rfl rfl
    · rw [if_neg h4] at hs
      by_cases h5 : x0 = (43 : Int32)
      · rw [if_pos h5] at hs
        rw [show swl [(37, 86), (42, 68), (43, 60), (45, 64), (47, 72), (95, 100)] 106 x0 = 60 by first | (simp only [swl, if_pos h5]; done) | (rw [h5]; decide)]
        refine Rc.goL mt_624 2 (f2 := (63, [.int x0, .long x1, UU, .long x3, UU], [.long (x1 + x3)], gm M)) (b := true) rfl rfl ?_
        obtain ⟨e1, e2⟩ := some_p hs; subst e1; subst e2
        exact Rc.ret (v := some (.long (x1 + x3))) rfl rfl
      · rw [if_neg h5] at hs
        by_cases h6 : x0 = (45 : Int32)
        · rw [if_pos h6] at hs
          rw [show swl [(37, 86), (42, 68), (43, 60), (45, 64), (47, 72), (95, 100)] 106 x0 = 64 by first | (simp only [swl, if_pos h6]; done) | (rw [h6]; decide)]
          refine Rc.goL mt_624 2 (f2 := (67, [.int x0, .long x1, UU, .long x3, UU], [.long (x1 - x3)], gm M)) (b := true) rfl rfl ?_
          obtain ⟨e1, e2⟩ := some_p hs; subst e1; subst e2
          exact Rc.ret (v := some (.long (x1 - x3))) rfl rfl
        · rw [if_neg h6] at hs
          by_cases h9 : x0 = (47 : Int32)
          · rw [if_pos h9] at hs
            rw [show swl [(37, 86), (42, 68), (43, 60), (45, 64), (47, 72), (95, 100)] 106 x0 = 72 by first | (simp only [swl, if_pos h9]; done) | (rw [h9]; decide)]
            by_cases h8 : (lg_cmp x3 (0 : Int64)) = 0
            · rw [if_pos h8] at hs
              refine Rc.goL mt_624 3 (f2 := (if (lg_cmp x3 (0 : Int64)) = 0 then 78 else 82, [.int x0, .long x1, UU, .long x3, UU], [], gm M)) (b := true) rfl rfl ?_
              rw [if_pos h8]
              refine Rc.goL mt_624 1 (f2 := (85, [.int x0, .long x1, UU, .long x3, UU], [.long (0 : Int64)], gm M)) (b := true) rfl rfl ?_
              obtain ⟨e1, e2⟩ := some_p hs; subst e1; subst e2
              exact Rc.ret (v := some (.long (0 : Int64))) rfl rfl
            · rw [if_neg h8] at hs
              refine Rc.goL mt_624 3 (f2 := (if (lg_cmp x3 (0 : Int64)) = 0 then 78 else 82, [.int x0, .long x1, UU, .long x3, UU], [], gm M)) (b := true) rfl rfl ?_
              rw [if_neg h8]
              obtain ⟨hb7, hs⟩ := ck_some hs
              refine Rc.goL mt_624 2 (f2 := (85, [.int x0, .long x1, UU, .long x3, UU], [.long (x1 / x3)], gm M)) (b := (decide (¬ x3 = 0) && true)) rfl hb7 ?_
              obtain ⟨e1, e2⟩ := some_p hs; subst e1; subst e2
              exact Rc.ret (v := some (.long (x1 / x3))) rfl rfl
          · rw [if_neg h9] at hs
            by_cases h10 : x0 = (95 : Int32)
            · rw [if_pos h10] at hs
              rw [show swl [(37, 86), (42, 68), (43, 60), (45, 64), (47, 72), (95, 100)] 106 x0 = 100 by first | (simp only [swl, if_pos h10]; done) | (rw [h10]; decide)]
              refine Rc.goL mt_624 2 (f2 := (105, [.int x0, .long x1, UU, .long x3, UU], [.long (lmn x1 x3)], gm M)) (b := true) rfl rfl ?_
              obtain ⟨e1, e2⟩ := some_p hs; subst e1; subst e2
              exact Rc.ret (v := some (.long (lmn x1 x3))) rfl rfl
            · rw [if_neg h10] at hs
              rw [show swl [(37, 86), (42, 68), (43, 60), (45, 64), (47, 72), (95, 100)] 106 x0 = 106 by simp only [swl, if_neg h3, if_neg h4, if_neg h5, if_neg h6, if_neg h9, if_neg h10]]
              refine Rc.goL mt_624 2 (f2 := (111, [.int x0, .long x1, UU, .long x3, UU], [.long (lmx x1 x3)], gm M)) (b := true) rfl rfl ?_
              obtain ⟨e1, e2⟩ := some_p hs; subst e1; subst e2
              exact Rc.ret (v := some (.long (lmx x1 x3))) rfl rfl
def qpr_doStep (x1 : Int32) (x2 : Int32) (M : SM) : Option (Unit × SM) :=
  if x1 = (48 : Int32) then
  (ob (qpr_push (Int32.toInt64 x2) M) (fun _ M1 =>
    some ((), M1))) else
  (if x1 = (65 : Int32) then
  (ob (qpr_letterAt x2 M) (fun r5 M6 =>
    ob (qpr_push r5 M6) (fun _ M8 =>
    some ((), M8)))) else
  (if x1 = (102 : Int32) then
  (ob (qpr_factAt x2 M) (fun r12 M13 =>
    ob (qpr_push r12 M13) (fun _ M15 =>
    some ((), M15)))) else
  (ob (qpr_pop M) (fun r19 M20 =>
    ob (qpr_pop M20) (fun r22 M23 =>
    jn (fun (x1_25 : Int32) (x3_26 : Int64) (x5_27 : Int64) (M28 : SM) =>
      ob (qpr_pop M28) (fun r29 M30 =>
        ob (qpr_pop M30) (fun r32 M33 =>
        ob (qpr_isSo x1_25 r32 r29 M33) (fun r35 M36 =>
        jn (fun (t38 : Int64) (M39 : SM) =>
          ob (qpr_push t38 M39) (fun _ M40 =>
            some ((), M40))) (fun j43 =>
        if r35 = 0 then
        (j43 x3_26 M36) else
        (j43 x5_27 M36)))))) (fun j45 =>
    if x1 = (60 : Int32) then
    (j45 x1 r19 r22 M23) else
    (if x1 = (62 : Int32) then
      (j45 x1 r19 r22 M23) else
      (if x1 = (61 : Int32) then
        (j45 x1 r19 r22 M23) else
        (ob (qpr_joined x1 r22 r19 M23) (fun r46 M47 =>
          ob (qpr_push r46 M47) (fun _ M49 =>
          some ((), M49))))))))))))
theorem mt_622 : MT 622 K_622 LN_6 := ⟨rfl, rfl, by decide +kernel⟩
theorem okm_622 : OKm 622 := ⟨⟨vE_622, okL_6, by decide +kernel⟩, by decide +kernel, by decide +kernel, by decide +kernel⟩
set_option maxRecDepth 20000 in
theorem qpr_doStep_ok (d : Nat) (hd : 2 ≤ d) {x1 : Int32} {x2 : Int32} {M : SM} {r : Unit} {Mz : SM} (hs : qpr_doStep x1 x2 M = some (r, Mz)) : Ex d 622 [.ref 12, .int x1, .int x2] (gm M) (none, gm Mz) := by
  obtain ⟨d, rfl⟩ : ∃ d0, d = d0 + 1 := ⟨d - 1, by omega⟩
  refine Ex.of okm_622 (by omega) (Nat.le_of_ble_eq_true rfl) ?_
  show Rc (d + 1) 622 (0, [.ref 12, .int x1, .int x2, UU, UU, UU, UU, UU, UU], [], gm M) _
  unfold qpr_doStep at hs
  refine Rc.goL mt_622 1 (f2 := (swl [(48, 36), (65, 43), (102, 53)] 63 x1, [.ref 12, .int x1, .int x2, UU, UU, UU, UU, UU, UU], [], gm M)) (b := true) rfl rfl ?_
  by_cases h4 : x1 = (48 : Int32)
  · rw [if_pos h4] at hs
    rw [show swl [(48, 36), (65, 43), (102, 53)] 63 x1 = 36 by first | (simp only [swl, if_pos h4]; done) | (rw [h4]; decide)]
    refine Rc.goL mt_622 2 (f2 := (39, [.ref 12, .int x1, .int x2, UU, UU, UU, UU, UU, UU], [.long (Int32.toInt64 x2), .ref 12], gm M)) (b := true) rfl rfl ?_
    obtain ⟨u3, M1, he2, hs⟩ := ob_some hs
    refine Rc.callV (i := 127) (mid' := 620) (av := [.long (Int32.toInt64 x2)]) (rest := []) (v := none) (M1 := gm M1) (a := 12) rfl rfl rfl cw_620 rfl (Nat.le_of_ble_eq_true rfl) rfl (Nat.le_of_ble_eq_true rfl) (qpr_push_ok _ (by omega) he2) ?_
    obtain ⟨e1, e2⟩ := some_p hs; subst e1; subst e2
    exact Rc.ret (v := none) rfl rfl
  · rw [if_neg h4] at hs
    by_cases h11 : x1 = (65 : Int32)
    · rw [if_pos h11] at hs
      rw [show swl [(48, 36), (65, 43), (102, 53)] 63 x1 = 43 by first | (simp only [swl, if_pos h11]; done) | (rw [h11]; decide)]
      refine Rc.goL mt_622 2 (f2 := (46, [.ref 12, .int x1, .int x2, UU, UU, UU, UU, UU, UU], [.int x2, .ref 12, .ref 12], gm M)) (b := true) rfl rfl ?_
      obtain ⟨r5, M6, he7, hs⟩ := ob_some hs
      refine Rc.callV (i := 55) (mid' := 609) (av := [.int x2]) (rest := [.ref 12]) (v := some (.long r5)) (M1 := gm M6) (a := 12) rfl rfl rfl cw_609 rfl (Nat.le_of_ble_eq_true rfl) rfl (Nat.le_of_ble_eq_true rfl) (qpr_letterAt_ok _ (by omega) he7) ?_
      obtain ⟨u10, M8, he9, hs⟩ := ob_some hs
      refine Rc.callV (i := 127) (mid' := 620) (av := [.long r5]) (rest := []) (v := none) (M1 := gm M8) (a := 12) rfl rfl rfl cw_620 rfl (Nat.le_of_ble_eq_true rfl) rfl (Nat.le_of_ble_eq_true rfl) (qpr_push_ok _ (by omega) he9) ?_
      obtain ⟨e1, e2⟩ := some_p hs; subst e1; subst e2
      exact Rc.ret (v := none) rfl rfl
    · rw [if_neg h11] at hs
      by_cases h18 : x1 = (102 : Int32)
      · rw [if_pos h18] at hs
        rw [show swl [(48, 36), (65, 43), (102, 53)] 63 x1 = 53 by first | (simp only [swl, if_pos h18]; done) | (rw [h18]; decide)]
        refine Rc.goL mt_622 2 (f2 := (56, [.ref 12, .int x1, .int x2, UU, UU, UU, UU, UU, UU], [.int x2, .ref 12, .ref 12], gm M)) (b := true) rfl rfl ?_
        obtain ⟨r12, M13, he14, hs⟩ := ob_some hs
        refine Rc.callV (i := 131) (mid' := 608) (av := [.int x2]) (rest := [.ref 12]) (v := some (.long r12)) (M1 := gm M13) (a := 12) rfl rfl rfl cw_608 rfl (Nat.le_of_ble_eq_true rfl) rfl (Nat.le_of_ble_eq_true rfl) (qpr_factAt_ok _ (by omega) he14) ?_
        obtain ⟨u17, M15, he16, hs⟩ := ob_some hs
        refine Rc.callV (i := 127) (mid' := 620) (av := [.long r12]) (rest := []) (v := none) (M1 := gm M15) (a := 12) rfl rfl rfl cw_620 rfl (Nat.le_of_ble_eq_true rfl) rfl (Nat.le_of_ble_eq_true rfl) (qpr_push_ok _ (by omega) he16) ?_
        obtain ⟨e1, e2⟩ := some_p hs; subst e1; subst e2
        exact Rc.ret (v := none) rfl rfl
      · rw [if_neg h18] at hs
        rw [show swl [(48, 36), (65, 43), (102, 53)] 63 x1 = 63 by simp only [swl, if_neg h4, if_neg h11, if_neg h18]]
        refine Rc.goL mt_622 0 (f2 := (64, [.ref 12, .int x1, .int x2, UU, UU, UU, UU, UU, UU], [.ref 12], gm M)) (b := true) rfl rfl ?_
        obtain ⟨r19, M20, he21, hs⟩ := ob_some hs
        refine Rc.callV (i := 124) (mid' := 621) (av := []) (rest := []) (v := some (.long r19)) (M1 := gm M20) (a := 12) rfl rfl rfl cw_621 rfl (Nat.le_of_ble_eq_true rfl) rfl (Nat.le_of_ble_eq_true rfl) (qpr_pop_ok _ (by omega) he21) ?_
        refine Rc.goL mt_622 1 (f2 := (69, [.ref 12, .int x1, .int x2, .long r19, UU, UU, UU, UU, UU], [.ref 12], gm M20)) (b := true) rfl rfl ?_
        obtain ⟨r22, M23, he24, hs⟩ := ob_some hs
        refine Rc.callV (i := 124) (mid' := 621) (av := []) (rest := []) (v := some (.long r22)) (M1 := gm M23) (a := 12) rfl rfl rfl cw_621 rfl (Nat.le_of_ble_eq_true rfl) rfl (Nat.le_of_ble_eq_true rfl) (qpr_pop_ok _ (by omega) he24) ?_
        refine jn_e (P := fun (j : Int32 → Int64 → Int64 → SM → Option (Unit × SM)) => ∀ (x1_25 : Int32) (x3_26 : Int64) (x5_27 : Int64) (M28 : SM) (r : Unit) (Mz : SM), j x1_25 x3_26 x5_27 M28 = some (r, Mz) → Rc (d + 1) 622 (104, [.ref 12, .int x1_25, UU, .long x3_26, UU, .long x5_27, UU, UU, UU], [], gm M28) (none, gm Mz)) hs ?_ (fun j45 Hj45 hs => ?_)
        · intro x1_25 x3_26 x5_27 M28 r Mz hs
          try dsimp only at hs
          refine Rc.goL mt_622 0 (f2 := (105, [.ref 12, .int x1_25, UU, .long x3_26, UU, .long x5_27, UU, UU, UU], [.ref 12], gm M28)) (b := true) rfl rfl ?_
          obtain ⟨r29, M30, he31, hs⟩ := ob_some hs
          refine Rc.callV (i := 124) (mid' := 621) (av := []) (rest := []) (v := some (.long r29)) (M1 := gm M30) (a := 12) rfl rfl rfl cw_621 rfl (Nat.le_of_ble_eq_true rfl) rfl (Nat.le_of_ble_eq_true rfl) (qpr_pop_ok _ (by omega) he31) ?_
          refine Rc.goL mt_622 3 (f2 := (113, [.ref 12, .int x1_25, UU, .long x3_26, UU, .long x5_27, UU, .long r29, UU], [.ref 12, .int x1_25, .ref 12], gm M30)) (b := true) rfl rfl ?_
          obtain ⟨r32, M33, he34, hs⟩ := ob_some hs
          refine Rc.callV (i := 124) (mid' := 621) (av := []) (rest := [.int x1_25, .ref 12]) (v := some (.long r32)) (M1 := gm M33) (a := 12) rfl rfl rfl cw_621 rfl (Nat.le_of_ble_eq_true rfl) rfl (Nat.le_of_ble_eq_true rfl) (qpr_pop_ok _ (by omega) he34) ?_
          refine Rc.goL mt_622 0 (f2 := (118, [.ref 12, .int x1_25, UU, .long x3_26, UU, .long x5_27, UU, .long r29, UU], [.long r29, .long r32, .int x1_25, .ref 12], gm M33)) (b := true) rfl rfl ?_
          obtain ⟨r35, M36, he37, hs⟩ := ob_some hs
          refine Rc.callS (i := 138) (mid' := 623) (av := [.int x1_25, .long r32, .long r29]) (rest := [.ref 12]) (v := some (.int r35)) (M1 := gm M36) rfl (Or.inl rfl) rfl cw_623 rfl (Nat.le_of_ble_eq_true rfl) (qpr_isSo_ok _ (by omega) he37) ?_
          refine jn_e (P := fun (j : Int64 → SM → Option (Unit × SM)) => ∀ (t38 : Int64) (M39 : SM) (r : Unit) (Mz : SM), j t38 M39 = some (r, Mz) → Rc (d + 1) 622 (130, [UU, UU, UU, UU, UU, UU, UU, UU, UU], [.long t38, .ref 12], gm M39) (none, gm Mz)) hs ?_ (fun j43 Hj43 hs => ?_)
          · intro t38 M39 r Mz hs
            try dsimp only at hs
            obtain ⟨u42, M40, he41, hs⟩ := ob_some hs
            refine Rc.callV (i := 127) (mid' := 620) (av := [.long t38]) (rest := []) (v := none) (M1 := gm M40) (a := 12) rfl rfl rfl cw_620 rfl (Nat.le_of_ble_eq_true rfl) rfl (Nat.le_of_ble_eq_true rfl) (qpr_push_ok _ (by omega) he41) ?_
            obtain ⟨e1, e2⟩ := some_p hs; subst e1; subst e2
            exact Rc.ret (v := none) rfl rfl
          by_cases h44 : r35 = 0
          · rw [if_pos h44] at hs
            refine Rc.goL mt_622 0 (f2 := (if r35 = 0 then 129 else 124, [.ref 12, .int x1_25, UU, .long x3_26, UU, .long x5_27, UU, .long r29, UU], [.ref 12], gm M36)) (b := true) rfl rfl ?_
            rw [if_pos h44]
            refine Rc.goL mt_622 0 (f2 := (130, [.ref 12, .int x1_25, UU, .long x3_26, UU, .long x5_27, UU, .long r29, UU], [.long x3_26, .ref 12], gm M36)) (b := true) rfl rfl ?_
            refine Rc.less (ls2 := [UU, UU, UU, UU, UU, UU, UU, UU, UU]) (by refine ⟨Or.inl rfl, Or.inl rfl, Or.inl rfl, Or.inl rfl, Or.inl rfl, Or.inl rfl, Or.inl rfl, Or.inl rfl, Or.inl rfl, trivial⟩) ?_
            exact Hj43 x3_26 _ _ _ hs
          · rw [if_neg h44] at hs
            refine Rc.goL mt_622 0 (f2 := (if r35 = 0 then 129 else 124, [.ref 12, .int x1_25, UU, .long x3_26, UU, .long x5_27, UU, .long r29, UU], [.ref 12], gm M36)) (b := true) rfl rfl ?_
            rw [if_neg h44]
            refine Rc.goL mt_622 1 (f2 := (130, [.ref 12, .int x1_25, UU, .long x3_26, UU, .long x5_27, UU, .long r29, UU], [.long x5_27, .ref 12], gm M36)) (b := true) rfl rfl ?_
            refine Rc.less (ls2 := [UU, UU, UU, UU, UU, UU, UU, UU, UU]) (by refine ⟨Or.inl rfl, Or.inl rfl, Or.inl rfl, Or.inl rfl, Or.inl rfl, Or.inl rfl, Or.inl rfl, Or.inl rfl, Or.inl rfl, trivial⟩) ?_
            exact Hj43 x5_27 _ _ _ hs
        by_cases h54 : x1 = (60 : Int32)
        · rw [if_pos h54] at hs
          refine Rc.goL mt_622 3 (f2 := (if x1 = (60 : Int32) then 104 else 80, [.ref 12, .int x1, .int x2, .long r19, UU, .long r22, UU, UU, UU], [], gm M23)) (b := true) rfl rfl ?_
          rw [if_pos h54]
          refine Rc.less (ls2 := [.ref 12, .int x1, UU, .long r19, UU, .long r22, UU, UU, UU]) (by refine ⟨Or.inr rfl, Or.inr rfl, Or.inl rfl, Or.inr rfl, Or.inl rfl, Or.inr rfl, Or.inl rfl, Or.inl rfl, Or.inl rfl, trivial⟩) ?_
          exact Hj45 x1 r19 r22 _ _ _ hs
        · rw [if_neg h54] at hs
          refine Rc.goL mt_622 3 (f2 := (if x1 = (60 : Int32) then 104 else 80, [.ref 12, .int x1, .int x2, .long r19, UU, .long r22, UU, UU, UU], [], gm M23)) (b := true) rfl rfl ?_
          rw [if_neg h54]
          by_cases h53 : x1 = (62 : Int32)
          · rw [if_pos h53] at hs
            refine Rc.goL mt_622 2 (f2 := (if x1 = (62 : Int32) then 104 else 86, [.ref 12, .int x1, .int x2, .long r19, UU, .long r22, UU, UU, UU], [], gm M23)) (b := true) rfl rfl ?_
            rw [if_pos h53]
            refine Rc.less (ls2 := [.ref 12, .int x1, UU, .long r19, UU, .long r22, UU, UU, UU]) (by refine ⟨Or.inr rfl, Or.inr rfl, Or.inl rfl, Or.inr rfl, Or.inl rfl, Or.inr rfl, Or.inl rfl, Or.inl rfl, Or.inl rfl, trivial⟩) ?_
            exact Hj45 x1 r19 r22 _ _ _ hs
          · rw [if_neg h53] at hs
            refine Rc.goL mt_622 2 (f2 := (if x1 = (62 : Int32) then 104 else 86, [.ref 12, .int x1, .int x2, .long r19, UU, .long r22, UU, UU, UU], [], gm M23)) (b := true) rfl rfl ?_
            rw [if_neg h53]
            by_cases h52 : x1 = (61 : Int32)
            · rw [if_pos h52] at hs
              refine Rc.goL mt_622 2 (f2 := (if x1 = (61 : Int32) then 104 else 92, [.ref 12, .int x1, .int x2, .long r19, UU, .long r22, UU, UU, UU], [], gm M23)) (b := true) rfl rfl ?_
              rw [if_pos h52]
              refine Rc.less (ls2 := [.ref 12, .int x1, UU, .long r19, UU, .long r22, UU, UU, UU]) (by refine ⟨Or.inr rfl, Or.inr rfl, Or.inl rfl, Or.inr rfl, Or.inl rfl, Or.inr rfl, Or.inl rfl, Or.inl rfl, Or.inl rfl, trivial⟩) ?_
              exact Hj45 x1 r19 r22 _ _ _ hs
            · rw [if_neg h52] at hs
              refine Rc.goL mt_622 2 (f2 := (if x1 = (61 : Int32) then 104 else 92, [.ref 12, .int x1, .int x2, .long r19, UU, .long r22, UU, UU, UU], [], gm M23)) (b := true) rfl rfl ?_
              rw [if_neg h52]
              refine Rc.goL mt_622 3 (f2 := (97, [.ref 12, .int x1, .int x2, .long r19, UU, .long r22, UU, UU, UU], [.long r19, .long r22, .int x1, .ref 12], gm M23)) (b := true) rfl rfl ?_
              obtain ⟨r46, M47, he48, hs⟩ := ob_some hs
              refine Rc.callS (i := 134) (mid' := 624) (av := [.int x1, .long r22, .long r19]) (rest := [.ref 12]) (v := some (.long r46)) (M1 := gm M47) rfl (Or.inl rfl) rfl cw_624 rfl (Nat.le_of_ble_eq_true rfl) (qpr_joined_ok _ (by omega) he48) ?_
              obtain ⟨u51, M49, he50, hs⟩ := ob_some hs
              refine Rc.callV (i := 127) (mid' := 620) (av := [.long r46]) (rest := []) (v := none) (M1 := gm M49) (a := 12) rfl rfl rfl cw_620 rfl (Nat.le_of_ble_eq_true rfl) rfl (Nat.le_of_ble_eq_true rfl) (qpr_push_ok _ (by omega) he50) ?_
              obtain ⟨e1, e2⟩ := some_p hs; subst e1; subst e2
              exact Rc.ret (v := none) rfl rfl
def qsh_has (s : Nat) (x1 : Int32) (M : SM) : Option (Int32 × SM) :=
  if x1 < 0 then
  (some ((0 : Int32), M)) else
  (ck (kc 336 s 8 && true) (
    if x1 < (M.1 s 3) then
    (if x1 < (10 : Int32) then
      (some ((1 : Int32), M)) else
      (some ((0 : Int32), M))) else
    (some ((0 : Int32), M))))
theorem mt_807 : MT 807 K_807 LN_8 := ⟨rfl, rfl, by decide +kernel⟩
theorem okm_807 : OKm 807 := ⟨⟨vE_807, okL_8, by decide +kernel⟩, by decide +kernel, by decide +kernel, by decide +kernel⟩
set_option maxRecDepth 20000 in
theorem qsh_has_ok (d : Nat) (hd : 1 ≤ d) {s : Nat} {x1 : Int32} {M : SM} {r : Int32} {Mz : SM} (hs : qsh_has s x1 M = some (r, Mz)) : Ex d 807 [.ref s, .int x1] (gm M) (some (.int r), gm Mz) := by
  obtain ⟨d, rfl⟩ : ∃ d0, d = d0 + 1 := ⟨d - 1, by omega⟩
  refine Ex.of okm_807 (by omega) (Nat.le_of_ble_eq_true rfl) ?_
  show Rc (d + 1) 807 (0, [.ref s, .int x1], [], gm M) _
  unfold qsh_has at hs
  by_cases h4 : x1 < 0
  · rw [if_pos h4] at hs
    refine Rc.goL mt_807 1 (f2 := (if x1 < 0 then 22 else 4, [.ref s, .int x1], [], gm M)) (b := true) rfl rfl ?_
    rw [if_pos h4]
    refine Rc.goL mt_807 0 (f2 := (23, [.ref s, .int x1], [.int (0 : Int32)], gm M)) (b := true) rfl rfl ?_
    obtain ⟨e1, e2⟩ := some_p hs; subst e1; subst e2
    exact Rc.ret (v := some (.int (0 : Int32))) rfl rfl
  · rw [if_neg h4] at hs
    refine Rc.goL mt_807 1 (f2 := (if x1 < 0 then 22 else 4, [.ref s, .int x1], [], gm M)) (b := true) rfl rfl ?_
    rw [if_neg h4]
    obtain ⟨hb1, hs⟩ := ck_some hs
    by_cases h3 : x1 < (M.1 s 3)
    · rw [if_pos h3] at hs
      refine Rc.goL mt_807 3 (f2 := (if x1 < (M.1 s 3) then 12 else 22, [.ref s, .int x1], [], gm M)) (b := (kc 336 s 8 && true)) rfl hb1 ?_
      rw [if_pos h3]
      by_cases h2 : x1 < (10 : Int32)
      · rw [if_pos h2] at hs
        refine Rc.goL mt_807 2 (f2 := (if x1 < (10 : Int32) then 18 else 22, [.ref s, .int x1], [], gm M)) (b := true) rfl rfl ?_
        rw [if_pos h2]
        refine Rc.goL mt_807 1 (f2 := (23, [.ref s, .int x1], [.int (1 : Int32)], gm M)) (b := true) rfl rfl ?_
        obtain ⟨e1, e2⟩ := some_p hs; subst e1; subst e2
        exact Rc.ret (v := some (.int (1 : Int32))) rfl rfl
      · rw [if_neg h2] at hs
        refine Rc.goL mt_807 2 (f2 := (if x1 < (10 : Int32) then 18 else 22, [.ref s, .int x1], [], gm M)) (b := true) rfl rfl ?_
        rw [if_neg h2]
        refine Rc.goL mt_807 0 (f2 := (23, [.ref s, .int x1], [.int (0 : Int32)], gm M)) (b := true) rfl rfl ?_
        obtain ⟨e1, e2⟩ := some_p hs; subst e1; subst e2
        exact Rc.ret (v := some (.int (0 : Int32))) rfl rfl
    · rw [if_neg h3] at hs
      refine Rc.goL mt_807 3 (f2 := (if x1 < (M.1 s 3) then 12 else 22, [.ref s, .int x1], [], gm M)) (b := (kc 336 s 8 && true)) rfl hb1 ?_
      rw [if_neg h3]
      refine Rc.goL mt_807 0 (f2 := (23, [.ref s, .int x1], [.int (0 : Int32)], gm M)) (b := true) rfl rfl ?_
      obtain ⟨e1, e2⟩ := some_p hs; subst e1; subst e2
      exact Rc.ret (v := some (.int (0 : Int32))) rfl rfl
def qsh_startOf (s : Nat) (x1 : Int32) (M : SM) : Option (Int32 × SM) :=
  ck (kc 336 s 8) (ob (qsh_has s (x1 - (1 : Int32)) M) (fun r2 M3 =>
  if r2 = 0 then
  (some ((0 : Int32), M3)) else
  (ck ((kc 336 s 8 && decide (R0 s 6 = some (s + 5))) && (av 336 20 (s + 5) (x1 - (1 : Int32)) && true)) (
    some ((M3.1 (s + 5) (Int32.toNatClampNeg (x1 - (1 : Int32)))), M3)))))
theorem mt_810 : MT 810 K_810 LN_8 := ⟨rfl, rfl, by decide +kernel⟩
theorem okm_810 : OKm 810 := ⟨⟨vE_810, okL_8, by decide +kernel⟩, by decide +kernel, by decide +kernel, by decide +kernel⟩
set_option maxRecDepth 20000 in
theorem qsh_startOf_ok (d : Nat) (hd : 2 ≤ d) {s : Nat} {x1 : Int32} {M : SM} {r : Int32} {Mz : SM} (hs : qsh_startOf s x1 M = some (r, Mz)) : Ex d 810 [.ref s, .int x1] (gm M) (some (.int r), gm Mz) := by
  obtain ⟨d, rfl⟩ : ∃ d0, d = d0 + 1 := ⟨d - 1, by omega⟩
  refine Ex.of okm_810 (by omega) (Nat.le_of_ble_eq_true rfl) ?_
  show Rc (d + 1) 810 (0, [.ref s, .int x1], [], gm M) _
  unfold qsh_startOf at hs
  refine Rc.goL mt_810 3 (f2 := (4, [.ref s, .int x1], [.int (x1 - (1 : Int32)), .ref s], gm M)) (b := true) rfl rfl ?_
  obtain ⟨hk1, hs⟩ := ck_some hs
  obtain ⟨r2, M3, he4, hs⟩ := ob_some hs
  refine Rc.callV (i := 55) (mid' := 807) (av := [.int (x1 - (1 : Int32))]) (rest := []) (v := some (.int r2)) (M1 := gm M3) (a := s) rfl rfl rfl cw_807 hk1 (Nat.le_of_ble_eq_true rfl) rfl (Nat.le_of_ble_eq_true rfl) (qsh_has_ok _ (by omega) he4) ?_
  by_cases h6 : r2 = 0
  · rw [if_pos h6] at hs
    refine Rc.goL mt_810 0 (f2 := (if r2 = 0 then 21 else 10, [.ref s, .int x1], [], gm M3)) (b := true) rfl rfl ?_
    rw [if_pos h6]
    refine Rc.goL mt_810 0 (f2 := (22, [.ref s, .int x1], [.int (0 : Int32)], gm M3)) (b := true) rfl rfl ?_
    obtain ⟨e1, e2⟩ := some_p hs; subst e1; subst e2
    exact Rc.ret (v := some (.int (0 : Int32))) rfl rfl
  · rw [if_neg h6] at hs
    refine Rc.goL mt_810 0 (f2 := (if r2 = 0 then 21 else 10, [.ref s, .int x1], [], gm M3)) (b := true) rfl rfl ?_
    rw [if_neg h6]
    obtain ⟨hb5, hs⟩ := ck_some hs
    refine Rc.goL mt_810 6 (f2 := (22, [.ref s, .int x1], [.int (M3.1 (s + 5) (Int32.toNatClampNeg (x1 - (1 : Int32))))], gm M3)) (b := ((kc 336 s 8 && decide (R0 s 6 = some (s + 5))) && (av 336 20 (s + 5) (x1 - (1 : Int32)) && true))) rfl hb5 ?_
    obtain ⟨e1, e2⟩ := some_p hs; subst e1; subst e2
    exact Rc.ret (v := some (.int (M3.1 (s + 5) (Int32.toNatClampNeg (x1 - (1 : Int32)))))) rfl rfl
def qsh_endOf (s : Nat) (x1 : Int32) (M : SM) : Option (Int32 × SM) :=
  ck (kc 336 s 8) (ob (qsh_has s x1 M) (fun r2 M3 =>
  if r2 = 0 then
  (some ((0 : Int32), M3)) else
  (ck ((kc 336 s 8 && decide (R0 s 6 = some (s + 5))) && (av 336 20 (s + 5) x1 && true)) (
    some ((M3.1 (s + 5) (Int32.toNatClampNeg x1)), M3)))))
theorem mt_811 : MT 811 K_811 LN_8 := ⟨rfl, rfl, by decide +kernel⟩
theorem okm_811 : OKm 811 := ⟨⟨vE_811, okL_8, by decide +kernel⟩, by decide +kernel, by decide +kernel, by decide +kernel⟩
set_option maxRecDepth 20000 in
theorem qsh_endOf_ok (d : Nat) (hd : 2 ≤ d) {s : Nat} {x1 : Int32} {M : SM} {r : Int32} {Mz : SM} (hs : qsh_endOf s x1 M = some (r, Mz)) : Ex d 811 [.ref s, .int x1] (gm M) (some (.int r), gm Mz) := by
  obtain ⟨d, rfl⟩ : ∃ d0, d = d0 + 1 := ⟨d - 1, by omega⟩
  refine Ex.of okm_811 (by omega) (Nat.le_of_ble_eq_true rfl) ?_
  show Rc (d + 1) 811 (0, [.ref s, .int x1], [], gm M) _
  unfold qsh_endOf at hs
  refine Rc.goL mt_811 1 (f2 := (2, [.ref s, .int x1], [.int x1, .ref s], gm M)) (b := true) rfl rfl ?_
  obtain ⟨hk1, hs⟩ := ck_some hs
  obtain ⟨r2, M3, he4, hs⟩ := ob_some hs
  refine Rc.callV (i := 55) (mid' := 807) (av := [.int x1]) (rest := []) (v := some (.int r2)) (M1 := gm M3) (a := s) rfl rfl rfl cw_807 hk1 (Nat.le_of_ble_eq_true rfl) rfl (Nat.le_of_ble_eq_true rfl) (qsh_has_ok _ (by omega) he4) ?_
  by_cases h6 : r2 = 0
  · rw [if_pos h6] at hs
    refine Rc.goL mt_811 0 (f2 := (if r2 = 0 then 17 else 8, [.ref s, .int x1], [], gm M3)) (b := true) rfl rfl ?_
    rw [if_pos h6]
    refine Rc.goL mt_811 0 (f2 := (18, [.ref s, .int x1], [.int (0 : Int32)], gm M3)) (b := true) rfl rfl ?_
    obtain ⟨e1, e2⟩ := some_p hs; subst e1; subst e2
    exact Rc.ret (v := some (.int (0 : Int32))) rfl rfl
  · rw [if_neg h6] at hs
    refine Rc.goL mt_811 0 (f2 := (if r2 = 0 then 17 else 8, [.ref s, .int x1], [], gm M3)) (b := true) rfl rfl ?_
    rw [if_neg h6]
    obtain ⟨hb5, hs⟩ := ck_some hs
    refine Rc.goL mt_811 4 (f2 := (18, [.ref s, .int x1], [.int (M3.1 (s + 5) (Int32.toNatClampNeg x1))], gm M3)) (b := ((kc 336 s 8 && decide (R0 s 6 = some (s + 5))) && (av 336 20 (s + 5) x1 && true))) rfl hb5 ?_
    obtain ⟨e1, e2⟩ := some_p hs; subst e1; subst e2
    exact Rc.ret (v := some (.int (M3.1 (s + 5) (Int32.toNatClampNeg x1)))) rfl rfl
def qsh_stepAt (s : Nat) (x1 : Int32) (M : SM) : Option (Int32 × SM) :=
  if x1 < 0 then
  (some ((48 : Int32), M)) else
  (ck (kc 336 s 8 && true) (
    if x1 < (M.1 s 2) then
    (ck ((kc 336 s 8 && decide (R0 s 0 = some (s + 1))) && ((Nat.blt 19 (K0 (s + 1)) && Nat.blt (K0 (s + 1)) 28 && Nat.blt (s + 1) 336) && true)) (
      if x1 < (Int32.ofNat (Z0 (s + 1))) then
      (ck ((kc 336 s 8 && decide (R0 s 0 = some (s + 1))) && (av 336 23 (s + 1) x1 && true)) (
        ck (decide (i2c' (M.1 (s + 1) (Int32.toNatClampNeg x1)) = (M.1 (s + 1) (Int32.toNatClampNeg x1)))) (some ((M.1 (s + 1) (Int32.toNatClampNeg x1)), M)))) else
      (some ((48 : Int32), M)))) else
    (some ((48 : Int32), M))))
theorem mt_812 : MT 812 K_812 LN_8 := ⟨rfl, rfl, by decide +kernel⟩
theorem okm_812 : OKm 812 := ⟨⟨vE_812, okL_8, by decide +kernel⟩, by decide +kernel, by decide +kernel, by decide +kernel⟩
set_option maxRecDepth 20000 in
theorem qsh_stepAt_ok (d : Nat) (hd : 1 ≤ d) {s : Nat} {x1 : Int32} {M : SM} {r : Int32} {Mz : SM} (hs : qsh_stepAt s x1 M = some (r, Mz)) : Ex d 812 [.ref s, .int x1] (gm M) (some (.int r), gm Mz) := by
  obtain ⟨d, rfl⟩ : ∃ d0, d = d0 + 1 := ⟨d - 1, by omega⟩
  refine Ex.of okm_812 (by omega) (Nat.le_of_ble_eq_true rfl) ?_
  show Rc (d + 1) 812 (0, [.ref s, .int x1], [], gm M) _
  unfold qsh_stepAt at hs
  by_cases h7 : x1 < 0
  · rw [if_pos h7] at hs
    refine Rc.goL mt_812 1 (f2 := (if x1 < 0 then 30 else 4, [.ref s, .int x1], [], gm M)) (b := true) rfl rfl ?_
    rw [if_pos h7]
    refine Rc.goL mt_812 0 (f2 := (32, [.ref s, .int x1], [.int (48 : Int32)], gm M)) (b := true) rfl rfl ?_
    obtain ⟨e1, e2⟩ := some_p hs; subst e1; subst e2
    exact Rc.ret (v := some (.int (48 : Int32))) rfl rfl
  · rw [if_neg h7] at hs
    refine Rc.goL mt_812 1 (f2 := (if x1 < 0 then 30 else 4, [.ref s, .int x1], [], gm M)) (b := true) rfl rfl ?_
    rw [if_neg h7]
    obtain ⟨hb1, hs⟩ := ck_some hs
    by_cases h6 : x1 < (M.1 s 2)
    · rw [if_pos h6] at hs
      refine Rc.goL mt_812 3 (f2 := (if x1 < (M.1 s 2) then 12 else 30, [.ref s, .int x1], [], gm M)) (b := (kc 336 s 8 && true)) rfl hb1 ?_
      rw [if_pos h6]
      obtain ⟨hb2, hs⟩ := ck_some hs
      by_cases h5 : x1 < (Int32.ofNat (Z0 (s + 1)))
      · rw [if_pos h5] at hs
        refine Rc.goL mt_812 4 (f2 := (if x1 < (Int32.ofNat (Z0 (s + 1))) then 21 else 30, [.ref s, .int x1], [], gm M)) (b := ((kc 336 s 8 && decide (R0 s 0 = some (s + 1))) && ((Nat.blt 19 (K0 (s + 1)) && Nat.blt (K0 (s + 1)) 28 && Nat.blt (s + 1) 336) && true))) rfl hb2 ?_
        rw [if_pos h5]
        obtain ⟨hb3, hs⟩ := ck_some hs
        refine Rc.goL mt_812 4 (f2 := (32, [.ref s, .int x1], [.int (M.1 (s + 1) (Int32.toNatClampNeg x1))], gm M)) (b := ((kc 336 s 8 && decide (R0 s 0 = some (s + 1))) && (av 336 23 (s + 1) x1 && true))) rfl hb3 ?_
        obtain ⟨hc4, hs⟩ := ck_some hs
        obtain ⟨e1, e2⟩ := some_p hs; subst e1; subst e2
        exact Rc.ret (v := some (.int (M.1 (s + 1) (Int32.toNatClampNeg x1)))) rfl hc4
      · rw [if_neg h5] at hs
        refine Rc.goL mt_812 4 (f2 := (if x1 < (Int32.ofNat (Z0 (s + 1))) then 21 else 30, [.ref s, .int x1], [], gm M)) (b := ((kc 336 s 8 && decide (R0 s 0 = some (s + 1))) && ((Nat.blt 19 (K0 (s + 1)) && Nat.blt (K0 (s + 1)) 28 && Nat.blt (s + 1) 336) && true))) rfl hb2 ?_
        rw [if_neg h5]
        refine Rc.goL mt_812 0 (f2 := (32, [.ref s, .int x1], [.int (48 : Int32)], gm M)) (b := true) rfl rfl ?_
        obtain ⟨e1, e2⟩ := some_p hs; subst e1; subst e2
        exact Rc.ret (v := some (.int (48 : Int32))) rfl rfl
    · rw [if_neg h6] at hs
      refine Rc.goL mt_812 3 (f2 := (if x1 < (M.1 s 2) then 12 else 30, [.ref s, .int x1], [], gm M)) (b := (kc 336 s 8 && true)) rfl hb1 ?_
      rw [if_neg h6]
      refine Rc.goL mt_812 0 (f2 := (32, [.ref s, .int x1], [.int (48 : Int32)], gm M)) (b := true) rfl rfl ?_
      obtain ⟨e1, e2⟩ := some_p hs; subst e1; subst e2
      exact Rc.ret (v := some (.int (48 : Int32))) rfl rfl
