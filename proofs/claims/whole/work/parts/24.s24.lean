def qsh_argAt (s : Nat) (x1 : Int32) (M : SM) : Option (Int32 × SM) :=
  if x1 < 0 then
  (some ((0 : Int32), M)) else
  (ck (kc 336 s 8 && true) (
    if x1 < (M.1 s 2) then
    (ck ((kc 336 s 8 && decide (R0 s 1 = some (s + 2))) && ((Nat.blt 19 (K0 (s + 2)) && Nat.blt (K0 (s + 2)) 28 && Nat.blt (s + 2) 336) && true)) (
      if x1 < (Int32.ofNat (Z0 (s + 2))) then
      (ck ((kc 336 s 8 && decide (R0 s 1 = some (s + 2))) && (av 336 20 (s + 2) x1 && true)) (
        some ((M.1 (s + 2) (Int32.toNatClampNeg x1)), M))) else
      (some ((0 : Int32), M)))) else
    (some ((0 : Int32), M))))
theorem mt_813 : MT 813 K_813 LN_8 := ⟨rfl, rfl, by decide +kernel⟩
theorem okm_813 : OKm 813 := ⟨⟨vE_813, okL_8, by decide +kernel⟩, by decide +kernel, by decide +kernel, by decide +kernel⟩
set_option maxRecDepth 20000 in
theorem qsh_argAt_ok (d : Nat) (hd : 1 ≤ d) {s : Nat} {x1 : Int32} {M : SM} {r : Int32} {Mz : SM} (hs : qsh_argAt s x1 M = some (r, Mz)) : Ex d 813 [.ref s, .int x1] (gm M) (some (.int r), gm Mz) := by
  obtain ⟨d, rfl⟩ : ∃ d0, d = d0 + 1 := ⟨d - 1, by omega⟩
  refine Ex.of okm_813 (by omega) (Nat.le_of_ble_eq_true rfl) ?_
  show Rc (d + 1) 813 (0, [.ref s, .int x1], [], gm M) _
  unfold qsh_argAt at hs
  by_cases h6 : x1 < 0
  · rw [if_pos h6] at hs
    refine Rc.goL mt_813 1 (f2 := (if x1 < 0 then 30 else 4, [.ref s, .int x1], [], gm M)) (b := true) rfl rfl ?_
    rw [if_pos h6]
    refine Rc.goL mt_813 0 (f2 := (31, [.ref s, .int x1], [.int (0 : Int32)], gm M)) (b := true) rfl rfl ?_
    obtain ⟨e1, e2⟩ := some_p hs; subst e1; subst e2
    exact Rc.ret (v := some (.int (0 : Int32))) rfl rfl
  · rw [if_neg h6] at hs
    refine Rc.goL mt_813 1 (f2 := (if x1 < 0 then 30 else 4, [.ref s, .int x1], [], gm M)) (b := true) rfl rfl ?_
    rw [if_neg h6]
    obtain ⟨hb1, hs⟩ := ck_some hs
    by_cases h5 : x1 < (M.1 s 2)
    · rw [if_pos h5] at hs
      refine Rc.goL mt_813 3 (f2 := (if x1 < (M.1 s 2) then 12 else 30, [.ref s, .int x1], [], gm M)) (b := (kc 336 s 8 && true)) rfl hb1 ?_
      rw [if_pos h5]
      obtain ⟨hb2, hs⟩ := ck_some hs
      by_cases h4 : x1 < (Int32.ofNat (Z0 (s + 2)))
      · rw [if_pos h4] at hs
        refine Rc.goL mt_813 4 (f2 := (if x1 < (Int32.ofNat (Z0 (s + 2))) then 21 else 30, [.ref s, .int x1], [], gm M)) (b := ((kc 336 s 8 && decide (R0 s 1 = some (s + 2))) && ((Nat.blt 19 (K0 (s + 2)) && Nat.blt (K0 (s + 2)) 28 && Nat.blt (s + 2) 336) && true))) rfl hb2 ?_
        rw [if_pos h4]
        obtain ⟨hb3, hs⟩ := ck_some hs
        refine Rc.goL mt_813 4 (f2 := (31, [.ref s, .int x1], [.int (M.1 (s + 2) (Int32.toNatClampNeg x1))], gm M)) (b := ((kc 336 s 8 && decide (R0 s 1 = some (s + 2))) && (av 336 20 (s + 2) x1 && true))) rfl hb3 ?_
        obtain ⟨e1, e2⟩ := some_p hs; subst e1; subst e2
        exact Rc.ret (v := some (.int (M.1 (s + 2) (Int32.toNatClampNeg x1)))) rfl rfl
      · rw [if_neg h4] at hs
        refine Rc.goL mt_813 4 (f2 := (if x1 < (Int32.ofNat (Z0 (s + 2))) then 21 else 30, [.ref s, .int x1], [], gm M)) (b := ((kc 336 s 8 && decide (R0 s 1 = some (s + 2))) && ((Nat.blt 19 (K0 (s + 2)) && Nat.blt (K0 (s + 2)) 28 && Nat.blt (s + 2) 336) && true))) rfl hb2 ?_
        rw [if_neg h4]
        refine Rc.goL mt_813 0 (f2 := (31, [.ref s, .int x1], [.int (0 : Int32)], gm M)) (b := true) rfl rfl ?_
        obtain ⟨e1, e2⟩ := some_p hs; subst e1; subst e2
        exact Rc.ret (v := some (.int (0 : Int32))) rfl rfl
    · rw [if_neg h5] at hs
      refine Rc.goL mt_813 3 (f2 := (if x1 < (M.1 s 2) then 12 else 30, [.ref s, .int x1], [], gm M)) (b := (kc 336 s 8 && true)) rfl hb1 ?_
      rw [if_neg h5]
      refine Rc.goL mt_813 0 (f2 := (31, [.ref s, .int x1], [.int (0 : Int32)], gm M)) (b := true) rfl rfl ?_
      obtain ⟨e1, e2⟩ := some_p hs; subst e1; subst e2
      exact Rc.ret (v := some (.int (0 : Int32))) rfl rfl
def qpr_reckon_L18 (k46 : SM → Option (Int64 × SM)) : Nat → Nat → Int32 → Int32 → SM → Option (Int64 × SM)
  | 0, _, _, _, _ => none
  | n + 1, x1, x3, x4, M =>
    if x4 < x3 then
    (ck (kc 336 x1 8) (ob (qsh_stepAt x1 x4 M) (fun r10 M11 =>
      ck (kc 336 x1 8) (ob (qsh_argAt x1 x4 M11) (fun r14 M15 =>
      ob (qpr_doStep r10 r14 M15) (fun _ M17 =>
      qpr_reckon_L18 k46 n x1 x3 (x4 + (1 : Int32)) M17)))))) else
    (k46 M)
def qpr_reckon (x1 : Nat) (x2 : Int32) (M : SM) : Option (Int64 × SM) :=
  ck (kc 336 x1 8) (ob (qsh_endOf x1 x2 M) (fun r2 M3 =>
  ck (kc 336 x1 8) (ob (qsh_startOf x1 x2 (wI M3 12 8 (0 : Int32))) (fun r6 M7 =>
  qpr_reckon_L18 (fun M21 =>
  ob (qpr_pop M21) (fun r22 M23 =>
    some (r22, M23))) FU x1 r2 r6 M7))))
theorem mt_619 : MT 619 K_619 LN_6 := ⟨rfl, rfl, by decide +kernel⟩
theorem okm_619 : OKm 619 := ⟨⟨vE_619, okL_6, by decide +kernel⟩, by decide +kernel, by decide +kernel, by decide +kernel⟩
set_option maxRecDepth 20000 in
theorem qpr_reckon_L18_ok (d : Nat) (hd : 3 ≤ d + 1) (k46 : SM → Option (Int64 × SM)) (hk46 : ∀ (M : SM) (r : Int64) (Mz : SM), k46 M = some (r, Mz) → Rc (d + 1) 619 (46, [.ref 12, UU, UU, UU, UU], [], gm M) (some (.long r), gm Mz)) : ∀ (n : Nat) (x1 : Nat) (x3 : Int32) (x4 : Int32) (M : SM) (r : Int64) (Mz : SM), qpr_reckon_L18 k46 n x1 x3 x4 M = some (r, Mz) → Rc (d + 1) 619 (18, [.ref 12, .ref x1, UU, .int x3, .int x4], [], gm M) (some (.long r), gm Mz) := by
  intro n
  induction n with
  | zero => intro x1 x3 x4 M r Mz hs; cases hs
  | succ n ih =>
    intro x1 x3 x4 M r Mz hs
    rw [qpr_reckon_L18] at hs
    by_cases h20 : x4 < x3
    · rw [if_pos h20] at hs
      refine Rc.goL mt_619 2 (f2 := (if x4 < x3 then 24 else 46, [.ref 12, .ref x1, UU, .int x3, .int x4], [], gm M)) (b := true) rfl rfl ?_
      rw [if_pos h20]
      refine Rc.goL mt_619 2 (f2 := (28, [.ref 12, .ref x1, UU, .int x3, .int x4], [.int x4, .ref x1, .ref 12], gm M)) (b := true) rfl rfl ?_
      obtain ⟨hk9, hs⟩ := ck_some hs
      obtain ⟨r10, M11, he12, hs⟩ := ob_some hs
      refine Rc.callV (i := 113) (mid' := 812) (av := [.int x4]) (rest := [.ref 12]) (v := some (.int r10)) (M1 := gm M11) (a := x1) rfl rfl rfl cw_812 hk9 (Nat.le_of_ble_eq_true rfl) rfl (Nat.le_of_ble_eq_true rfl) (qsh_stepAt_ok _ (by omega) he12) ?_
      refine Rc.goL mt_619 1 (f2 := (34, [.ref 12, .ref x1, UU, .int x3, .int x4], [.int x4, .ref x1, .int r10, .ref 12], gm M11)) (b := true) rfl rfl ?_
      obtain ⟨hk13, hs⟩ := ck_some hs
      obtain ⟨r14, M15, he16, hs⟩ := ob_some hs
      refine Rc.callV (i := 117) (mid' := 813) (av := [.int x4]) (rest := [.int r10, .ref 12]) (v := some (.int r14)) (M1 := gm M15) (a := x1) rfl rfl rfl cw_813 hk13 (Nat.le_of_ble_eq_true rfl) rfl (Nat.le_of_ble_eq_true rfl) (qsh_argAt_ok _ (by omega) he16) ?_
      obtain ⟨u19, M17, he18, hs⟩ := ob_some hs
      refine Rc.callV (i := 120) (mid' := 622) (av := [.int r10, .int r14]) (rest := []) (v := none) (M1 := gm M17) (a := 12) rfl rfl rfl cw_622 rfl (Nat.le_of_ble_eq_true rfl) rfl (Nat.le_of_ble_eq_true rfl) (qpr_doStep_ok _ (by omega) he18) ?_
      refine Rc.goL mt_619 1 (f2 := (18, [.ref 12, .ref x1, UU, .int x3, .int (x4 + (1 : Int32))], [], gm M17)) (b := true) rfl rfl ?_
      refine Rc.less (ls2 := [.ref 12, .ref x1, UU, .int x3, .int (x4 + (1 : Int32))]) (by refine ⟨Or.inr rfl, Or.inr rfl, Or.inl rfl, Or.inr rfl, Or.inr rfl, trivial⟩) ?_
      exact ih x1 x3 (x4 + (1 : Int32)) _ _ _ hs
    · rw [if_neg h20] at hs
      refine Rc.goL mt_619 2 (f2 := (if x4 < x3 then 24 else 46, [.ref 12, .ref x1, UU, .int x3, .int x4], [], gm M)) (b := true) rfl rfl ?_
      rw [if_neg h20]
      refine Rc.less (ls2 := [.ref 12, UU, UU, UU, UU]) (by refine ⟨Or.inr rfl, Or.inl rfl, Or.inl rfl, Or.inl rfl, Or.inl rfl, trivial⟩) ?_
      exact hk46 _ _ _ hs
set_option maxRecDepth 20000 in
theorem qpr_reckon_ok (d : Nat) (hd : 3 ≤ d) {x1 : Nat} {x2 : Int32} {M : SM} {r : Int64} {Mz : SM} (hs : qpr_reckon x1 x2 M = some (r, Mz)) : Ex d 619 [.ref 12, .ref x1, .int x2] (gm M) (some (.long r), gm Mz) := by
  obtain ⟨d, rfl⟩ : ∃ d0, d = d0 + 1 := ⟨d - 1, by omega⟩
  refine Ex.of okm_619 (by omega) (Nat.le_of_ble_eq_true rfl) ?_
  show Rc (d + 1) 619 (0, [.ref 12, .ref x1, .int x2, UU, UU], [], gm M) _
  unfold qpr_reckon at hs
  refine Rc.goL mt_619 1 (f2 := (2, [.ref 12, .ref x1, .int x2, UU, UU], [.int x2, .ref x1], gm M)) (b := true) rfl rfl ?_
  obtain ⟨hk1, hs⟩ := ck_some hs
  obtain ⟨r2, M3, he4, hs⟩ := ob_some hs
  refine Rc.callV (i := 104) (mid' := 811) (av := [.int x2]) (rest := []) (v := some (.int r2)) (M1 := gm M3) (a := x1) rfl rfl rfl cw_811 hk1 (Nat.le_of_ble_eq_true rfl) rfl (Nat.le_of_ble_eq_true rfl) (qsh_endOf_ok _ (by omega) he4) ?_
  refine Rc.goL mt_619 3 (f2 := (11, [.ref 12, .ref x1, .int x2, .int r2, UU], [], gm (wI M3 12 8 (0 : Int32)))) (b := true) rfl rfl ?_
  refine Rc.goL mt_619 1 (f2 := (13, [.ref 12, .ref x1, .int x2, .int r2, UU], [.int x2, .ref x1], gm (wI M3 12 8 (0 : Int32)))) (b := true) rfl rfl ?_
  obtain ⟨hk5, hs⟩ := ck_some hs
  obtain ⟨r6, M7, he8, hs⟩ := ob_some hs
  refine Rc.callV (i := 110) (mid' := 810) (av := [.int x2]) (rest := []) (v := some (.int r6)) (M1 := gm M7) (a := x1) rfl rfl rfl cw_810 hk5 (Nat.le_of_ble_eq_true rfl) rfl (Nat.le_of_ble_eq_true rfl) (qsh_startOf_ok _ (by omega) he8) ?_
  refine Rc.goL mt_619 0 (f2 := (18, [.ref 12, .ref x1, .int x2, .int r2, .int r6], [], gm M7)) (b := true) rfl rfl ?_
  refine Rc.less (ls2 := [.ref 12, .ref x1, UU, .int r2, .int r6]) (by refine ⟨Or.inr rfl, Or.inr rfl, Or.inl rfl, Or.inr rfl, Or.inr rfl, trivial⟩) ?_
  refine qpr_reckon_L18_ok d hd _ (fun M21 r Mz hs => ?_) _ x1 r2 r6 _ _ _ hs
  · refine Rc.goL mt_619 0 (f2 := (47, [.ref 12, UU, UU, UU, UU], [.ref 12], gm M21)) (b := true) rfl rfl ?_
    obtain ⟨r22, M23, he24, hs⟩ := ob_some hs
    refine Rc.callV (i := 124) (mid' := 621) (av := []) (rest := []) (v := some (.long r22)) (M1 := gm M23) (a := 12) rfl rfl rfl cw_621 rfl (Nat.le_of_ble_eq_true rfl) rfl (Nat.le_of_ble_eq_true rfl) (qpr_pop_ok _ (by omega) he24) ?_
    obtain ⟨e1, e2⟩ := some_p hs; subst e1; subst e2
    exact Rc.ret (v := some (.long r22)) rfl rfl
def qsh_letterOf (s : Nat) (x1 : Int32) (M : SM) : Option (Int32 × SM) :=
  ck (kc 336 s 8) (ob (qsh_has s x1 M) (fun r2 M3 =>
  if r2 = 0 then
  (some ((-1 : Int32), M3)) else
  (ck ((kc 336 s 8 && decide (R0 s 4 = some (s + 3))) && (av 336 20 (s + 3) x1 && true)) (
    some ((M3.1 (s + 3) (Int32.toNatClampNeg x1)), M3)))))
theorem mt_809 : MT 809 K_809 LN_8 := ⟨rfl, rfl, by decide +kernel⟩
theorem okm_809 : OKm 809 := ⟨⟨vE_809, okL_8, by decide +kernel⟩, by decide +kernel, by decide +kernel, by decide +kernel⟩
set_option maxRecDepth 20000 in
theorem qsh_letterOf_ok (d : Nat) (hd : 2 ≤ d) {s : Nat} {x1 : Int32} {M : SM} {r : Int32} {Mz : SM} (hs : qsh_letterOf s x1 M = some (r, Mz)) : Ex d 809 [.ref s, .int x1] (gm M) (some (.int r), gm Mz) := by
  obtain ⟨d, rfl⟩ : ∃ d0, d = d0 + 1 := ⟨d - 1, by omega⟩
  refine Ex.of okm_809 (by omega) (Nat.le_of_ble_eq_true rfl) ?_
  show Rc (d + 1) 809 (0, [.ref s, .int x1], [], gm M) _
  unfold qsh_letterOf at hs
  refine Rc.goL mt_809 1 (f2 := (2, [.ref s, .int x1], [.int x1, .ref s], gm M)) (b := true) rfl rfl ?_
  obtain ⟨hk1, hs⟩ := ck_some hs
  obtain ⟨r2, M3, he4, hs⟩ := ob_some hs
  refine Rc.callV (i := 55) (mid' := 807) (av := [.int x1]) (rest := []) (v := some (.int r2)) (M1 := gm M3) (a := s) rfl rfl rfl cw_807 hk1 (Nat.le_of_ble_eq_true rfl) rfl (Nat.le_of_ble_eq_true rfl) (qsh_has_ok _ (by omega) he4) ?_
  by_cases h6 : r2 = 0
  · rw [if_pos h6] at hs
    refine Rc.goL mt_809 0 (f2 := (if r2 = 0 then 17 else 8, [.ref s, .int x1], [], gm M3)) (b := true) rfl rfl ?_
    rw [if_pos h6]
    refine Rc.goL mt_809 0 (f2 := (18, [.ref s, .int x1], [.int (-1 : Int32)], gm M3)) (b := true) rfl rfl ?_
    obtain ⟨e1, e2⟩ := some_p hs; subst e1; subst e2
    exact Rc.ret (v := some (.int (-1 : Int32))) rfl rfl
  · rw [if_neg h6] at hs
    refine Rc.goL mt_809 0 (f2 := (if r2 = 0 then 17 else 8, [.ref s, .int x1], [], gm M3)) (b := true) rfl rfl ?_
    rw [if_neg h6]
    obtain ⟨hb5, hs⟩ := ck_some hs
    refine Rc.goL mt_809 4 (f2 := (18, [.ref s, .int x1], [.int (M3.1 (s + 3) (Int32.toNatClampNeg x1))], gm M3)) (b := ((kc 336 s 8 && decide (R0 s 4 = some (s + 3))) && (av 336 20 (s + 3) x1 && true))) rfl hb5 ?_
    obtain ⟨e1, e2⟩ := some_p hs; subst e1; subst e2
    exact Rc.ret (v := some (.int (M3.1 (s + 3) (Int32.toNatClampNeg x1)))) rfl rfl
def qsh_inOrder (s : Nat) (x1 : Int32) (M : SM) : Option (Int32 × SM) :=
  ck (kc 336 s 8) (ob (qsh_has s x1 M) (fun r2 M3 =>
  if r2 = 0 then
  (some ((-1 : Int32), M3)) else
  (ck ((kc 336 s 8 && decide (R0 s 8 = some (s + 7))) && (av 336 20 (s + 7) x1 && true)) (
    some ((M3.1 (s + 7) (Int32.toNatClampNeg x1)), M3)))))
theorem mt_814 : MT 814 K_814 LN_8 := ⟨rfl, rfl, by decide +kernel⟩
theorem okm_814 : OKm 814 := ⟨⟨vE_814, okL_8, by decide +kernel⟩, by decide +kernel, by decide +kernel, by decide +kernel⟩
set_option maxRecDepth 20000 in
theorem qsh_inOrder_ok (d : Nat) (hd : 2 ≤ d) {s : Nat} {x1 : Int32} {M : SM} {r : Int32} {Mz : SM} (hs : qsh_inOrder s x1 M = some (r, Mz)) : Ex d 814 [.ref s, .int x1] (gm M) (some (.int r), gm Mz) := by
  obtain ⟨d, rfl⟩ : ∃ d0, d = d0 + 1 := ⟨d - 1, by omega⟩
  refine Ex.of okm_814 (by omega) (Nat.le_of_ble_eq_true rfl) ?_
  show Rc (d + 1) 814 (0, [.ref s, .int x1], [], gm M) _
  unfold qsh_inOrder at hs
  refine Rc.goL mt_814 1 (f2 := (2, [.ref s, .int x1], [.int x1, .ref s], gm M)) (b := true) rfl rfl ?_
  obtain ⟨hk1, hs⟩ := ck_some hs
  obtain ⟨r2, M3, he4, hs⟩ := ob_some hs
  refine Rc.callV (i := 55) (mid' := 807) (av := [.int x1]) (rest := []) (v := some (.int r2)) (M1 := gm M3) (a := s) rfl rfl rfl cw_807 hk1 (Nat.le_of_ble_eq_true rfl) rfl (Nat.le_of_ble_eq_true rfl) (qsh_has_ok _ (by omega) he4) ?_
  by_cases h6 : r2 = 0
  · rw [if_pos h6] at hs
    refine Rc.goL mt_814 0 (f2 := (if r2 = 0 then 17 else 8, [.ref s, .int x1], [], gm M3)) (b := true) rfl rfl ?_
    rw [if_pos h6]
    refine Rc.goL mt_814 0 (f2 := (18, [.ref s, .int x1], [.int (-1 : Int32)], gm M3)) (b := true) rfl rfl ?_
    obtain ⟨e1, e2⟩ := some_p hs; subst e1; subst e2
    exact Rc.ret (v := some (.int (-1 : Int32))) rfl rfl
  · rw [if_neg h6] at hs
    refine Rc.goL mt_814 0 (f2 := (if r2 = 0 then 17 else 8, [.ref s, .int x1], [], gm M3)) (b := true) rfl rfl ?_
    rw [if_neg h6]
    obtain ⟨hb5, hs⟩ := ck_some hs
    refine Rc.goL mt_814 4 (f2 := (18, [.ref s, .int x1], [.int (M3.1 (s + 7) (Int32.toNatClampNeg x1))], gm M3)) (b := ((kc 336 s 8 && decide (R0 s 8 = some (s + 7))) && (av 336 20 (s + 7) x1 && true))) rfl hb5 ?_
    obtain ⟨e1, e2⟩ := some_p hs; subst e1; subst e2
    exact Rc.ret (v := some (.int (M3.1 (s + 7) (Int32.toNatClampNeg x1)))) rfl rfl
def qpr_reckonLetters_L2 (k24 : Option Nat → SM → Option (Unit × SM)) : Nat → Option Nat → Int32 → SM → Option (Unit × SM)
  | 0, _, _, _ => none
  | n + 1, x1, x2, M =>
    if x2 < (26 : Int32) then
    (ck (ib 26 x2 && true) (
      qpr_reckonLetters_L2 k24 n x1 (x2 + (1 : Int32)) (wL M 176 (Int32.toNatClampNeg x2) (0 : Int64)))) else
    (k24 x1 M)
def qpr_reckonLetters_L31 : Nat → Nat → Int32 → SM → Option (Unit × SM)
  | 0, _, _, _ => none
  | n + 1, x1, x2, M =>
    ck (kc 336 x1 8 && true) (
    if x2 < (M.1 x1 3) then
    (ck (kc 336 x1 8) (ob (qsh_inOrder x1 x2 M) (fun r8 M9 =>
      ck (kc 336 x1 8) (ob (qsh_letterOf x1 r8 M9) (fun r12 M13 =>
      ob (qpr_reckon x1 r8 M13) (fun r15 M16 =>
      if r12 < 0 then
      (qpr_reckonLetters_L31 n x1 (x2 + (1 : Int32)) M16) else
      (if r12 < (26 : Int32) then
        (ck (ib 26 r12 && true) (
          qpr_reckonLetters_L31 n x1 (x2 + (1 : Int32)) (wL M16 176 (Int32.toNatClampNeg r12) r15))) else
        (qpr_reckonLetters_L31 n x1 (x2 + (1 : Int32)) M16)))))))) else
    (some ((), M)))
def qpr_reckonLetters (x1 : Option Nat) (M : SM) : Option (Unit × SM) :=
  qpr_reckonLetters_L2 (fun y1_3 M4 =>
  om y1_3 (
    some ((), M4)) (fun s5 =>
    qpr_reckonLetters_L31 FU s5 (0 : Int32) M4)) FU x1 (0 : Int32) M
theorem mt_610 : MT 610 K_610 LN_6 := ⟨rfl, rfl, by decide +kernel⟩
theorem okm_610 : OKm 610 := ⟨⟨vE_610, okL_6, by decide +kernel⟩, by decide +kernel, by decide +kernel, by decide +kernel⟩
set_option maxRecDepth 20000 in
theorem qpr_reckonLetters_L2_ok (d : Nat) (hd : 4 ≤ d + 1) (k24 : Option Nat → SM → Option (Unit × SM)) (hk24 : ∀ (y1 : Option Nat) (M : SM) (r : Unit) (Mz : SM), k24 y1 M = some (r, Mz) → Rc (d + 1) 610 (24, [.ref 12, rv y1, UU, UU, UU, UU, UU], [], gm M) (none, gm Mz)) : ∀ (n : Nat) (x1 : Option Nat) (x2 : Int32) (M : SM) (r : Unit) (Mz : SM), qpr_reckonLetters_L2 k24 n x1 x2 M = some (r, Mz) → Rc (d + 1) 610 (2, [.ref 12, rv x1, .int x2, UU, UU, UU, UU], [], gm M) (none, gm Mz) := by
  intro n
  induction n with
  | zero => intro x1 x2 M r Mz hs; cases hs
  | succ n ih =>
    intro x1 x2 M r Mz hs
    rw [qpr_reckonLetters_L2] at hs
    by_cases h2 : x2 < (26 : Int32)
    · rw [if_pos h2] at hs
      refine Rc.goL mt_610 4 (f2 := (if x2 < (26 : Int32) then 11 else 24, [.ref 12, rv x1, .int x2, UU, UU, UU, UU], [], gm M)) (b := true) (by cases x1 <;> rfl) rfl ?_
      rw [if_pos h2]
      obtain ⟨hb1, hs⟩ := ck_some hs
      obtain ⟨hb1_0, hb1⟩ := and_t hb1
      refine Rc.goL mt_610 4 (f2 := (18, [.ref 12, rv x1, .int x2, UU, UU, UU, UU], [], gm (wL M 176 (Int32.toNatClampNeg x2) (0 : Int64)))) (b := (ib 26 x2 && true)) (by cases x1 <;> rfl) (and_i hb1_0 rfl) ?_
      refine Rc.goL mt_610 1 (f2 := (2, [.ref 12, rv x1, .int (x2 + (1 : Int32)), UU, UU, UU, UU], [], gm (wL M 176 (Int32.toNatClampNeg x2) (0 : Int64)))) (b := true) (by cases x1 <;> rfl) rfl ?_
      refine Rc.less (ls2 := [.ref 12, rv x1, .int (x2 + (1 : Int32)), UU, UU, UU, UU]) (by refine ⟨Or.inr rfl, Or.inr rfl, Or.inr rfl, Or.inl rfl, Or.inl rfl, Or.inl rfl, Or.inl rfl, trivial⟩) ?_
      exact ih x1 (x2 + (1 : Int32)) _ _ _ hs
    · rw [if_neg h2] at hs
      refine Rc.goL mt_610 4 (f2 := (if x2 < (26 : Int32) then 11 else 24, [.ref 12, rv x1, .int x2, UU, UU, UU, UU], [], gm M)) (b := true) (by cases x1 <;> rfl) rfl ?_
      rw [if_neg h2]
      refine Rc.less (ls2 := [.ref 12, rv x1, UU, UU, UU, UU, UU]) (by refine ⟨Or.inr rfl, Or.inr rfl, Or.inl rfl, Or.inl rfl, Or.inl rfl, Or.inl rfl, Or.inl rfl, trivial⟩) ?_
      exact hk24 x1 _ _ _ hs
set_option maxRecDepth 20000 in
theorem qpr_reckonLetters_L31_ok (d : Nat) (hd : 4 ≤ d + 1) : ∀ (n : Nat) (x1 : Nat) (x2 : Int32) (M : SM) (r : Unit) (Mz : SM), qpr_reckonLetters_L31 n x1 x2 M = some (r, Mz) → Rc (d + 1) 610 (31, [.ref 12, .ref x1, .int x2, UU, UU, UU, UU], [], gm M) (none, gm Mz) := by
  intro n
  induction n with
  | zero => intro x1 x2 M r Mz hs; cases hs
  | succ n ih =>
    intro x1 x2 M r Mz hs
    rw [qpr_reckonLetters_L31] at hs
    obtain ⟨hb6, hs⟩ := ck_some hs
    by_cases h21 : x2 < (M.1 x1 3)
    · rw [if_pos h21] at hs
      refine Rc.goL mt_610 3 (f2 := (if x2 < (M.1 x1 3) then 39 else 90, [.ref 12, .ref x1, .int x2, UU, UU, UU, UU], [], gm M)) (b := (kc 336 x1 8 && true)) rfl hb6 ?_
      rw [if_pos h21]
      refine Rc.goL mt_610 1 (f2 := (41, [.ref 12, .ref x1, .int x2, UU, UU, UU, UU], [.int x2, .ref x1], gm M)) (b := true) rfl rfl ?_
      obtain ⟨hk7, hs⟩ := ck_some hs
      obtain ⟨r8, M9, he10, hs⟩ := ob_some hs
      refine Rc.callV (i := 44) (mid' := 814) (av := [.int x2]) (rest := []) (v := some (.int r8)) (M1 := gm M9) (a := x1) rfl rfl rfl cw_814 hk7 (Nat.le_of_ble_eq_true rfl) rfl (Nat.le_of_ble_eq_true rfl) (qsh_inOrder_ok _ (by omega) he10) ?_
      refine Rc.goL mt_610 2 (f2 := (47, [.ref 12, .ref x1, .int x2, .int r8, UU, UU, UU], [.int r8, .ref x1], gm M9)) (b := true) rfl rfl ?_
      obtain ⟨hk11, hs⟩ := ck_some hs
      obtain ⟨r12, M13, he14, hs⟩ := ob_some hs
      refine Rc.callV (i := 48) (mid' := 809) (av := [.int r8]) (rest := []) (v := some (.int r12)) (M1 := gm M13) (a := x1) rfl rfl rfl cw_809 hk11 (Nat.le_of_ble_eq_true rfl) rfl (Nat.le_of_ble_eq_true rfl) (qsh_letterOf_ok _ (by omega) he14) ?_
      refine Rc.goL mt_610 3 (f2 := (55, [.ref 12, .ref x1, .int x2, .int r8, .int r12, UU, UU], [.int r8, .ref x1, .ref 12], gm M13)) (b := true) rfl rfl ?_
      obtain ⟨r15, M16, he17, hs⟩ := ob_some hs
      refine Rc.callV (i := 51) (mid' := 619) (av := [.ref x1, .int r8]) (rest := []) (v := some (.long r15)) (M1 := gm M16) (a := 12) rfl rfl rfl cw_619 rfl (Nat.le_of_ble_eq_true rfl) rfl (Nat.le_of_ble_eq_true rfl) (qpr_reckon_ok _ (by omega) he17) ?_
      by_cases h20 : r12 < 0
      · rw [if_pos h20] at hs
        refine Rc.goL mt_610 2 (f2 := (if r12 < 0 then 84 else 65, [.ref 12, .ref x1, .int x2, .int r8, .int r12, .long r15, UU], [], gm M16)) (b := true) rfl rfl ?_
        rw [if_pos h20]
        refine Rc.goL mt_610 1 (f2 := (31, [.ref 12, .ref x1, .int (x2 + (1 : Int32)), .int r8, .int r12, .long r15, UU], [], gm M16)) (b := true) rfl rfl ?_
        refine Rc.less (ls2 := [.ref 12, .ref x1, .int (x2 + (1 : Int32)), UU, UU, UU, UU]) (by refine ⟨Or.inr rfl, Or.inr rfl, Or.inr rfl, Or.inl rfl, Or.inl rfl, Or.inl rfl, Or.inl rfl, trivial⟩) ?_
        exact ih x1 (x2 + (1 : Int32)) _ _ _ hs
      · rw [if_neg h20] at hs
        refine Rc.goL mt_610 2 (f2 := (if r12 < 0 then 84 else 65, [.ref 12, .ref x1, .int x2, .int r8, .int r12, .long r15, UU], [], gm M16)) (b := true) rfl rfl ?_
        rw [if_neg h20]
        by_cases h19 : r12 < (26 : Int32)
        · rw [if_pos h19] at hs
          refine Rc.goL mt_610 4 (f2 := (if r12 < (26 : Int32) then 75 else 84, [.ref 12, .ref x1, .int x2, .int r8, .int r12, .long r15, UU], [], gm M16)) (b := true) rfl rfl ?_
          rw [if_pos h19]
          obtain ⟨hb18, hs⟩ := ck_some hs
          refine Rc.goL mt_610 4 (f2 := (84, [.ref 12, .ref x1, .int x2, .int r8, .int r12, .long r15, UU], [], gm (wL M16 176 (Int32.toNatClampNeg r12) r15))) (b := (ib 26 r12 && true)) rfl hb18 ?_
          refine Rc.goL mt_610 1 (f2 := (31, [.ref 12, .ref x1, .int (x2 + (1 : Int32)), .int r8, .int r12, .long r15, UU], [], gm (wL M16 176 (Int32.toNatClampNeg r12) r15))) (b := true) rfl rfl ?_
          refine Rc.less (ls2 := [.ref 12, .ref x1, .int (x2 + (1 : Int32)), UU, UU, UU, UU]) (by refine ⟨Or.inr rfl, Or.inr rfl, Or.inr rfl, Or.inl rfl, Or.inl rfl, Or.inl rfl, Or.inl rfl, trivial⟩) ?_
          exact ih x1 (x2 + (1 : Int32)) _ _ _ hs
        · rw [if_neg h19] at hs
          refine Rc.goL mt_610 4 (f2 := (if r12 < (26 : Int32) then 75 else 84, [.ref 12, .ref x1, .int x2, .int r8, .int r12, .long r15, UU], [], gm M16)) (b := true) rfl rfl ?_
          rw [if_neg h19]
          refine Rc.goL mt_610 1 (f2 := (31, [.ref 12, .ref x1, .int (x2 + (1 : Int32)), .int r8, .int r12, .long r15, UU], [], gm M16)) (b := true) rfl rfl ?_
          refine Rc.less (ls2 := [.ref 12, .ref x1, .int (x2 + (1 : Int32)), UU, UU, UU, UU]) (by refine ⟨Or.inr rfl, Or.inr rfl, Or.inr rfl, Or.inl rfl, Or.inl rfl, Or.inl rfl, Or.inl rfl, trivial⟩) ?_
          exact ih x1 (x2 + (1 : Int32)) _ _ _ hs
    · rw [if_neg h21] at hs
      refine Rc.goL mt_610 3 (f2 := (if x2 < (M.1 x1 3) then 39 else 90, [.ref 12, .ref x1, .int x2, UU, UU, UU, UU], [], gm M)) (b := (kc 336 x1 8 && true)) rfl hb6 ?_
      rw [if_neg h21]
      obtain ⟨e1, e2⟩ := some_p hs; subst e1; subst e2
      exact Rc.ret (v := none) rfl rfl
set_option maxRecDepth 20000 in
theorem qpr_reckonLetters_ok (d : Nat) (hd : 4 ≤ d) {x1 : Option Nat} {M : SM} {r : Unit} {Mz : SM} (hs : qpr_reckonLetters x1 M = some (r, Mz)) : Ex d 610 [.ref 12, rv x1] (gm M) (none, gm Mz) := by
  obtain ⟨d, rfl⟩ : ∃ d0, d = d0 + 1 := ⟨d - 1, by omega⟩
  refine Ex.of okm_610 (by omega) (by cases x1 <;> exact Nat.le_of_ble_eq_true rfl) ?_
  rw [show enL (mxL 610) [.ref 12, rv x1] = [.ref 12, rv x1, UU, UU, UU, UU, UU] from (by cases x1 <;> rfl)]
  unfold qpr_reckonLetters at hs
  refine Rc.goL mt_610 1 (f2 := (2, [.ref 12, rv x1, .int (0 : Int32), UU, UU, UU, UU], [], gm M)) (b := true) (by cases x1 <;> rfl) rfl ?_
  refine Rc.less (ls2 := [.ref 12, rv x1, .int (0 : Int32), UU, UU, UU, UU]) (by refine ⟨Or.inr rfl, Or.inr rfl, Or.inr rfl, Or.inl rfl, Or.inl rfl, Or.inl rfl, Or.inl rfl, trivial⟩) ?_
  refine qpr_reckonLetters_L2_ok d hd _ (fun y1_3 M4 r Mz hs => ?_) _ x1 (0 : Int32) _ _ _ hs
  · cases y1_3 with
    | none =>
      have hs := om_none hs
      refine Rc.goL mt_610 1 (f2 := (28, [.ref 12, .null, UU, UU, UU, UU, UU], [], gm M4)) (b := true) rfl rfl ?_
      obtain ⟨e1, e2⟩ := some_p hs; subst e1; subst e2
      exact Rc.ret (v := none) rfl rfl
    | some s5 =>
      have hs := om_some hs
      refine Rc.goL mt_610 1 (f2 := (29, [.ref 12, .ref s5, UU, UU, UU, UU, UU], [], gm M4)) (b := true) rfl rfl ?_
      refine Rc.goL mt_610 1 (f2 := (31, [.ref 12, .ref s5, .int (0 : Int32), UU, UU, UU, UU], [], gm M4)) (b := true) rfl rfl ?_
      refine Rc.less (ls2 := [.ref 12, .ref s5, .int (0 : Int32), UU, UU, UU, UU]) (by refine ⟨Or.inr rfl, Or.inr rfl, Or.inr rfl, Or.inl rfl, Or.inl rfl, Or.inl rfl, Or.inl rfl, trivial⟩) ?_
      exact qpr_reckonLetters_L31_ok d hd _ s5 (0 : Int32) _ _ _ hs
def qpr_boundBy (x1 : Nat) (M : SM) : Option (Unit × SM) :=
  ck (kc 336 x1 8) (ob (qsh_letterOf x1 (0 : Int32) M) (fun r2 M3 =>
  if r2 < 0 then
  (some ((), M3)) else
  (if r2 < (26 : Int32) then
    (ob (qpr_reckon x1 (0 : Int32) M3) (fun r5 M6 =>
      ck (kc 336 x1 8 && true) (
      if (M6.1 x1 11) = 0 then
      (ck (ib 26 r2 && true) (
        ck (ib 26 r2 && true) (
        some ((), (wL M6 177 (Int32.toNatClampNeg r2) (lmn (M6.2 177 (Int32.toNatClampNeg r2)) r5)))))) else
      (ck (ib 26 r2 && true) (
        ck (ib 26 r2 && true) (
        some ((), (wL M6 177 (Int32.toNatClampNeg r2) (lmx (M6.2 177 (Int32.toNatClampNeg r2)) r5))))))))) else
    (some ((), M3)))))
theorem mt_612 : MT 612 K_612 LN_6 := ⟨rfl, rfl, by decide +kernel⟩
theorem okm_612 : OKm 612 := ⟨⟨vE_612, okL_6, by decide +kernel⟩, by decide +kernel, by decide +kernel, by decide +kernel⟩
set_option maxRecDepth 20000 in
theorem qpr_boundBy_ok (d : Nat) (hd : 4 ≤ d) {x1 : Nat} {M : SM} {r : Unit} {Mz : SM} (hs : qpr_boundBy x1 M = some (r, Mz)) : Ex d 612 [.ref 12, .ref x1] (gm M) (none, gm Mz) := by
  obtain ⟨d, rfl⟩ : ∃ d0, d = d0 + 1 := ⟨d - 1, by omega⟩
  refine Ex.of okm_612 (by omega) (Nat.le_of_ble_eq_true rfl) ?_
  show Rc (d + 1) 612 (0, [.ref 12, .ref x1, UU, UU, UU], [], gm M) _
  unfold qpr_boundBy at hs
  refine Rc.goL mt_612 1 (f2 := (2, [.ref 12, .ref x1, UU, UU, UU], [.int (0 : Int32), .ref x1], gm M)) (b := true) rfl rfl ?_
  obtain ⟨hk1, hs⟩ := ck_some hs
  obtain ⟨r2, M3, he4, hs⟩ := ob_some hs
  refine Rc.callV (i := 48) (mid' := 809) (av := [.int (0 : Int32)]) (rest := []) (v := some (.int r2)) (M1 := gm M3) (a := x1) rfl rfl rfl cw_809 hk1 (Nat.le_of_ble_eq_true rfl) rfl (Nat.le_of_ble_eq_true rfl) (qsh_letterOf_ok _ (by omega) he4) ?_
  by_cases h15 : r2 < 0
  · rw [if_pos h15] at hs
    refine Rc.goL mt_612 2 (f2 := (if r2 < 0 then 19 else 10, [.ref 12, .ref x1, .int r2, UU, UU], [], gm M3)) (b := true) rfl rfl ?_
    rw [if_pos h15]
    obtain ⟨e1, e2⟩ := some_p hs; subst e1; subst e2
    exact Rc.ret (v := none) rfl rfl
  · rw [if_neg h15] at hs
    refine Rc.goL mt_612 2 (f2 := (if r2 < 0 then 19 else 10, [.ref 12, .ref x1, .int r2, UU, UU], [], gm M3)) (b := true) rfl rfl ?_
    rw [if_neg h15]
    by_cases h14 : r2 < (26 : Int32)
    · rw [if_pos h14] at hs
      refine Rc.goL mt_612 4 (f2 := (if r2 < (26 : Int32) then 20 else 19, [.ref 12, .ref x1, .int r2, UU, UU], [], gm M3)) (b := true) rfl rfl ?_
      rw [if_pos h14]
      refine Rc.goL mt_612 2 (f2 := (23, [.ref 12, .ref x1, .int r2, UU, UU], [.int (0 : Int32), .ref x1, .ref 12], gm M3)) (b := true) rfl rfl ?_
      obtain ⟨r5, M6, he7, hs⟩ := ob_some hs
      refine Rc.callV (i := 51) (mid' := 619) (av := [.ref x1, .int (0 : Int32)]) (rest := []) (v := some (.long r5)) (M1 := gm M6) (a := 12) rfl rfl rfl cw_619 rfl (Nat.le_of_ble_eq_true rfl) rfl (Nat.le_of_ble_eq_true rfl) (qpr_reckon_ok _ (by omega) he7) ?_
      obtain ⟨hb8, hs⟩ := ck_some hs
      by_cases h13 : (M6.1 x1 11) = 0
      · rw [if_pos h13] at hs
        refine Rc.goL mt_612 6 (f2 := (if (M6.1 x1 11) = 0 then 52 else 39, [.ref 12, .ref x1, .int r2, .long r5, UU], [.int r2, .ref 177], gm M6)) (b := (kc 336 x1 8 && true)) rfl hb8 ?_
        rw [if_pos h13]
        obtain ⟨hb9, hs⟩ := ck_some hs
        refine Rc.goL mt_612 5 (f2 := (62, [.ref 12, .ref x1, .int r2, .long r5, UU], [.long (lmn (M6.2 177 (Int32.toNatClampNeg r2)) r5), .int r2, .ref 177], gm M6)) (b := (ib 26 r2 && true)) rfl hb9 ?_
        obtain ⟨hb10, hs⟩ := ck_some hs
        obtain ⟨hb10_0, hb10⟩ := and_t hb10
        refine Rc.goL mt_612 0 (f2 := (63, [.ref 12, .ref x1, .int r2, .long r5, UU], [], gm (wL M6 177 (Int32.toNatClampNeg r2) (lmn (M6.2 177 (Int32.toNatClampNeg r2)) r5)))) (b := (ib 26 r2 && true)) rfl (and_i hb10_0 rfl) ?_
        obtain ⟨e1, e2⟩ := some_p hs; subst e1; subst e2
        exact Rc.ret (v := none) rfl rfl
      · rw [if_neg h13] at hs
        refine Rc.goL mt_612 6 (f2 := (if (M6.1 x1 11) = 0 then 52 else 39, [.ref 12, .ref x1, .int r2, .long r5, UU], [.int r2, .ref 177], gm M6)) (b := (kc 336 x1 8 && true)) rfl hb8 ?_
        rw [if_neg h13]
        obtain ⟨hb11, hs⟩ := ck_some hs
        refine Rc.goL mt_612 6 (f2 := (62, [.ref 12, .ref x1, .int r2, .long r5, UU], [.long (lmx (M6.2 177 (Int32.toNatClampNeg r2)) r5), .int r2, .ref 177], gm M6)) (b := (ib 26 r2 && true)) rfl hb11 ?_
        obtain ⟨hb12, hs⟩ := ck_some hs
        obtain ⟨hb12_0, hb12⟩ := and_t hb12
        refine Rc.goL mt_612 0 (f2 := (63, [.ref 12, .ref x1, .int r2, .long r5, UU], [], gm (wL M6 177 (Int32.toNatClampNeg r2) (lmx (M6.2 177 (Int32.toNatClampNeg r2)) r5)))) (b := (ib 26 r2 && true)) rfl (and_i hb12_0 rfl) ?_
        obtain ⟨e1, e2⟩ := some_p hs; subst e1; subst e2
        exact Rc.ret (v := none) rfl rfl
    · rw [if_neg h14] at hs
      refine Rc.goL mt_612 4 (f2 := (if r2 < (26 : Int32) then 20 else 19, [.ref 12, .ref x1, .int r2, UU, UU], [], gm M3)) (b := true) rfl rfl ?_
      rw [if_neg h14]
      obtain ⟨e1, e2⟩ := some_p hs; subst e1; subst e2
      exact Rc.ret (v := none) rfl rfl
def qpr_boundWorths_L2 (k28 : Int32 → Int32 → SM → Option (Unit × SM)) : Nat → Int32 → Int32 → Int32 → SM → Option (Unit × SM)
  | 0, _, _, _, _ => none
  | n + 1, x1, x2, x3, M =>
    if x3 < (26 : Int32) then
    (ob (qpr_letterAt x3 M) (fun r1 M2 =>
      ck (ib 26 x3 && true) (
      qpr_boundWorths_L2 k28 n x1 x2 (x3 + (1 : Int32)) (wL M2 177 (Int32.toNatClampNeg x3) r1)))) else
    (k28 x1 x2 M)
def qpr_boundWorths_L30 (k80 : Int32 → SM → Option (Unit × SM)) : Nat → Int32 → Int32 → Int32 → SM → Option (Unit × SM)
  | 0, _, _, _, _ => none
  | n + 1, x1, x2, x3, M =>
    if x3 < (M.1 12 3) then
    (ob (qpr_actAt x3 M) (fun r9 M10 =>
      om r9 (
      qpr_boundWorths_L30 k80 n x1 x2 (x3 + (1 : Int32)) M10) (fun s12 =>
      ck (kc 336 s12 8 && true) (
        if x1 < (M10.1 s12 9) then
        (qpr_boundWorths_L30 k80 n x1 x2 (x3 + (1 : Int32)) M10) else
        (ck (kc 336 s12 8 && true) (
          if (M10.1 s12 10) < x1 then
          (qpr_boundWorths_L30 k80 n x1 x2 (x3 + (1 : Int32)) M10) else
          (ob (qpr_boundBy s12 M10) (fun _ M15 =>
            qpr_boundWorths_L30 k80 n x1 x2 (x3 + (1 : Int32)) M15)))))))) else
    (k80 x2 M)
def qpr_boundWorths (x1 : Int32) (x2 : Int32) (M : SM) : Option (Unit × SM) :=
  qpr_boundWorths_L2 (fun y1_6 y2_7 M8 =>
  qpr_boundWorths_L30 (fun y2_21 M22 =>
    if y2_21 = 0 then
      (some ((), M22)) else
      (ck (ib 26 (17 : Int32) && true) (
        some ((), (wL M22 177 (Int32.toNatClampNeg (17 : Int32)) (0 : Int64)))))) FU y1_6 y2_7 (0 : Int32) M8) FU x1 x2 (0 : Int32) M
theorem mt_611 : MT 611 K_611 LN_6 := ⟨rfl, rfl, by decide +kernel⟩
theorem okm_611 : OKm 611 := ⟨⟨vE_611, okL_6, by decide +kernel⟩, by decide +kernel, by decide +kernel, by decide +kernel⟩
set_option maxRecDepth 20000 in
theorem qpr_boundWorths_L2_ok (d : Nat) (hd : 5 ≤ d + 1) (k28 : Int32 → Int32 → SM → Option (Unit × SM)) (hk28 : ∀ (y1 : Int32) (y2 : Int32) (M : SM) (r : Unit) (Mz : SM), k28 y1 y2 M = some (r, Mz) → Rc (d + 1) 611 (28, [.ref 12, .int y1, .int y2, UU, UU], [], gm M) (none, gm Mz)) : ∀ (n : Nat) (x1 : Int32) (x2 : Int32) (x3 : Int32) (M : SM) (r : Unit) (Mz : SM), qpr_boundWorths_L2 k28 n x1 x2 x3 M = some (r, Mz) → Rc (d + 1) 611 (2, [.ref 12, .int x1, .int x2, .int x3, UU], [], gm M) (none, gm Mz) := by
  intro n
  induction n with
  | zero => intro x1 x2 x3 M r Mz hs; cases hs
  | succ n ih =>
    intro x1 x2 x3 M r Mz hs
    rw [qpr_boundWorths_L2] at hs
    by_cases h5 : x3 < (26 : Int32)
    · rw [if_pos h5] at hs
      refine Rc.goL mt_611 4 (f2 := (if x3 < (26 : Int32) then 11 else 28, [.ref 12, .int x1, .int x2, .int x3, UU], [], gm M)) (b := true) rfl rfl ?_
      rw [if_pos h5]
      refine Rc.goL mt_611 4 (f2 := (18, [.ref 12, .int x1, .int x2, .int x3, UU], [.int x3, .ref 12, .int x3, .ref 177], gm M)) (b := true) rfl rfl ?_
      obtain ⟨r1, M2, he3, hs⟩ := ob_some hs
      refine Rc.callV (i := 55) (mid' := 609) (av := [.int x3]) (rest := [.int x3, .ref 177]) (v := some (.long r1)) (M1 := gm M2) (a := 12) rfl rfl rfl cw_609 rfl (Nat.le_of_ble_eq_true rfl) rfl (Nat.le_of_ble_eq_true rfl) (qpr_letterAt_ok _ (by omega) he3) ?_
      obtain ⟨hb4, hs⟩ := ck_some hs
      obtain ⟨hb4_0, hb4⟩ := and_t hb4
      refine Rc.goL mt_611 0 (f2 := (22, [.ref 12, .int x1, .int x2, .int x3, UU], [], gm (wL M2 177 (Int32.toNatClampNeg x3) r1))) (b := (ib 26 x3 && true)) rfl (and_i hb4_0 rfl) ?_
      refine Rc.goL mt_611 1 (f2 := (2, [.ref 12, .int x1, .int x2, .int (x3 + (1 : Int32)), UU], [], gm (wL M2 177 (Int32.toNatClampNeg x3) r1))) (b := true) rfl rfl ?_
      refine Rc.less (ls2 := [.ref 12, .int x1, .int x2, .int (x3 + (1 : Int32)), UU]) (by refine ⟨Or.inr rfl, Or.inr rfl, Or.inr rfl, Or.inr rfl, Or.inl rfl, trivial⟩) ?_
      exact ih x1 x2 (x3 + (1 : Int32)) _ _ _ hs
    · rw [if_neg h5] at hs
      refine Rc.goL mt_611 4 (f2 := (if x3 < (26 : Int32) then 11 else 28, [.ref 12, .int x1, .int x2, .int x3, UU], [], gm M)) (b := true) rfl rfl ?_
      rw [if_neg h5]
      refine Rc.less (ls2 := [.ref 12, .int x1, .int x2, UU, UU]) (by refine ⟨Or.inr rfl, Or.inr rfl, Or.inr rfl, Or.inl rfl, Or.inl rfl, trivial⟩) ?_
      exact hk28 x1 x2 _ _ _ hs
set_option maxRecDepth 20000 in
theorem qpr_boundWorths_L30_ok (d : Nat) (hd : 5 ≤ d + 1) (k80 : Int32 → SM → Option (Unit × SM)) (hk80 : ∀ (y2 : Int32) (M : SM) (r : Unit) (Mz : SM), k80 y2 M = some (r, Mz) → Rc (d + 1) 611 (80, [.ref 12, UU, .int y2, UU, UU], [], gm M) (none, gm Mz)) : ∀ (n : Nat) (x1 : Int32) (x2 : Int32) (x3 : Int32) (M : SM) (r : Unit) (Mz : SM), qpr_boundWorths_L30 k80 n x1 x2 x3 M = some (r, Mz) → Rc (d + 1) 611 (30, [.ref 12, .int x1, .int x2, .int x3, UU], [], gm M) (none, gm Mz) := by
  intro n
  induction n with
  | zero => intro x1 x2 x3 M r Mz hs; cases hs
  | succ n ih =>
    intro x1 x2 x3 M r Mz hs
    rw [qpr_boundWorths_L30] at hs
    by_cases h20 : x3 < (M.1 12 3)
    · rw [if_pos h20] at hs
      refine Rc.goL mt_611 3 (f2 := (if x3 < (M.1 12 3) then 38 else 80, [.ref 12, .int x1, .int x2, .int x3, UU], [], gm M)) (b := true) rfl rfl ?_
      rw [if_pos h20]
      refine Rc.goL mt_611 1 (f2 := (40, [.ref 12, .int x1, .int x2, .int x3, UU], [.int x3, .ref 12], gm M)) (b := true) rfl rfl ?_
      obtain ⟨r9, M10, he11, hs⟩ := ob_some hs
      refine Rc.callV (i := 59) (mid' := 606) (av := [.int x3]) (rest := []) (v := some (rv r9)) (M1 := gm M10) (a := 12) rfl rfl rfl cw_606 rfl (Nat.le_of_ble_eq_true rfl) rfl (Nat.le_of_ble_eq_true rfl) (qpr_actAt_ok _ (by omega) he11) ?_
      cases r9 with
      | none =>
        have hs := om_none hs
        refine Rc.goL mt_611 2 (f2 := (74, [.ref 12, .int x1, .int x2, .int x3, .null], [], gm M10)) (b := true) rfl rfl ?_
        refine Rc.goL mt_611 1 (f2 := (30, [.ref 12, .int x1, .int x2, .int (x3 + (1 : Int32)), .null], [], gm M10)) (b := true) rfl rfl ?_
        refine Rc.less (ls2 := [.ref 12, .int x1, .int x2, .int (x3 + (1 : Int32)), UU]) (by refine ⟨Or.inr rfl, Or.inr rfl, Or.inr rfl, Or.inr rfl, Or.inl rfl, trivial⟩) ?_
        exact ih x1 x2 (x3 + (1 : Int32)) _ _ _ hs
      | some s12 =>
        have hs := om_some hs
        refine Rc.goL mt_611 2 (f2 := (50, [.ref 12, .int x1, .int x2, .int x3, .ref s12], [], gm M10)) (b := true) rfl rfl ?_
        obtain ⟨hb13, hs⟩ := ck_some hs
        by_cases h19 : x1 < (M10.1 s12 9)
        · rw [if_pos h19] at hs
          refine Rc.goL mt_611 3 (f2 := (if x1 < (M10.1 s12 9) then 74 else 59, [.ref 12, .int x1, .int x2, .int x3, .ref s12], [], gm M10)) (b := (kc 336 s12 8 && true)) rfl hb13 ?_
          rw [if_pos h19]
          refine Rc.goL mt_611 1 (f2 := (30, [.ref 12, .int x1, .int x2, .int (x3 + (1 : Int32)), .ref s12], [], gm M10)) (b := true) rfl rfl ?_
          refine Rc.less (ls2 := [.ref 12, .int x1, .int x2, .int (x3 + (1 : Int32)), UU]) (by refine ⟨Or.inr rfl, Or.inr rfl, Or.inr rfl, Or.inr rfl, Or.inl rfl, trivial⟩) ?_
          exact ih x1 x2 (x3 + (1 : Int32)) _ _ _ hs
        · rw [if_neg h19] at hs
          refine Rc.goL mt_611 3 (f2 := (if x1 < (M10.1 s12 9) then 74 else 59, [.ref 12, .int x1, .int x2, .int x3, .ref s12], [], gm M10)) (b := (kc 336 s12 8 && true)) rfl hb13 ?_
          rw [if_neg h19]
          obtain ⟨hb14, hs⟩ := ck_some hs
          by_cases h18 : (M10.1 s12 10) < x1
          · rw [if_pos h18] at hs
            refine Rc.goL mt_611 3 (f2 := (if (M10.1 s12 10) < x1 then 74 else 68, [.ref 12, .int x1, .int x2, .int x3, .ref s12], [], gm M10)) (b := (kc 336 s12 8 && true)) rfl hb14 ?_
            rw [if_pos h18]
            refine Rc.goL mt_611 1 (f2 := (30, [.ref 12, .int x1, .int x2, .int (x3 + (1 : Int32)), .ref s12], [], gm M10)) (b := true) rfl rfl ?_
            refine Rc.less (ls2 := [.ref 12, .int x1, .int x2, .int (x3 + (1 : Int32)), UU]) (by refine ⟨Or.inr rfl, Or.inr rfl, Or.inr rfl, Or.inr rfl, Or.inl rfl, trivial⟩) ?_
            exact ih x1 x2 (x3 + (1 : Int32)) _ _ _ hs
          · rw [if_neg h18] at hs
            refine Rc.goL mt_611 3 (f2 := (if (M10.1 s12 10) < x1 then 74 else 68, [.ref 12, .int x1, .int x2, .int x3, .ref s12], [], gm M10)) (b := (kc 336 s12 8 && true)) rfl hb14 ?_
            rw [if_neg h18]
            refine Rc.goL mt_611 1 (f2 := (71, [.ref 12, .int x1, .int x2, .int x3, .ref s12], [.ref s12, .ref 12], gm M10)) (b := true) rfl rfl ?_
            obtain ⟨u17, M15, he16, hs⟩ := ob_some hs
            refine Rc.callV (i := 69) (mid' := 612) (av := [.ref s12]) (rest := []) (v := none) (M1 := gm M15) (a := 12) rfl rfl rfl cw_612 rfl (Nat.le_of_ble_eq_true rfl) rfl (Nat.le_of_ble_eq_true rfl) (qpr_boundBy_ok _ (by omega) he16) ?_
            refine Rc.goL mt_611 1 (f2 := (30, [.ref 12, .int x1, .int x2, .int (x3 + (1 : Int32)), .ref s12], [], gm M15)) (b := true) rfl rfl ?_
            refine Rc.less (ls2 := [.ref 12, .int x1, .int x2, .int (x3 + (1 : Int32)), UU]) (by refine ⟨Or.inr rfl, Or.inr rfl, Or.inr rfl, Or.inr rfl, Or.inl rfl, trivial⟩) ?_
            exact ih x1 x2 (x3 + (1 : Int32)) _ _ _ hs
    · rw [if_neg h20] at hs
      refine Rc.goL mt_611 3 (f2 := (if x3 < (M.1 12 3) then 38 else 80, [.ref 12, .int x1, .int x2, .int x3, UU], [], gm M)) (b := true) rfl rfl ?_
      rw [if_neg h20]
      refine Rc.less (ls2 := [.ref 12, UU, .int x2, UU, UU]) (by refine ⟨Or.inr rfl, Or.inl rfl, Or.inr rfl, Or.inl rfl, Or.inl rfl, trivial⟩) ?_
      exact hk80 x2 _ _ _ hs
set_option maxRecDepth 20000 in
theorem qpr_boundWorths_ok (d : Nat) (hd : 5 ≤ d) {x1 : Int32} {x2 : Int32} {M : SM} {r : Unit} {Mz : SM} (hs : qpr_boundWorths x1 x2 M = some (r, Mz)) : Ex d 611 [.ref 12, .int x1, .int x2] (gm M) (none, gm Mz) := by
  obtain ⟨d, rfl⟩ : ∃ d0, d = d0 + 1 := ⟨d - 1, by omega⟩
  refine Ex.of okm_611 (by omega) (Nat.le_of_ble_eq_true rfl) ?_
  show Rc (d + 1) 611 (0, [.ref 12, .int x1, .int x2, UU, UU], [], gm M) _
  unfold qpr_boundWorths at hs
  refine Rc.goL mt_611 1 (f2 := (2, [.ref 12, .int x1, .int x2, .int (0 : Int32), UU], [], gm M)) (b := true) rfl rfl ?_
  refine Rc.less (ls2 := [.ref 12, .int x1, .int x2, .int (0 : Int32), UU]) (by refine ⟨Or.inr rfl, Or.inr rfl, Or.inr rfl, Or.inr rfl, Or.inl rfl, trivial⟩) ?_
  refine qpr_boundWorths_L2_ok d hd _ (fun y1_6 y2_7 M8 r Mz hs => ?_) _ x1 x2 (0 : Int32) _ _ _ hs
  · refine Rc.goL mt_611 1 (f2 := (30, [.ref 12, .int y1_6, .int y2_7, .int (0 : Int32), UU], [], gm M8)) (b := true) rfl rfl ?_
    refine Rc.less (ls2 := [.ref 12, .int y1_6, .int y2_7, .int (0 : Int32), UU]) (by refine ⟨Or.inr rfl, Or.inr rfl, Or.inr rfl, Or.inr rfl, Or.inl rfl, trivial⟩) ?_
    refine qpr_boundWorths_L30_ok d hd _ (fun y2_21 M22 r Mz hs => ?_) _ y1_6 y2_7 (0 : Int32) _ _ _ hs
    · by_cases h24 : y2_21 = 0
      · rw [if_pos h24] at hs
        refine Rc.goL mt_611 1 (f2 := (if y2_21 = 0 then 92 else 84, [.ref 12, UU, .int y2_21, UU, UU], [], gm M22)) (b := true) rfl rfl ?_
        rw [if_pos h24]
        obtain ⟨e1, e2⟩ := some_p hs; subst e1; subst e2
        exact Rc.ret (v := none) rfl rfl
      · rw [if_neg h24] at hs
        refine Rc.goL mt_611 1 (f2 := (if y2_21 = 0 then 92 else 84, [.ref 12, UU, .int y2_21, UU, UU], [], gm M22)) (b := true) rfl rfl ?_
        rw [if_neg h24]
        obtain ⟨hb23, hs⟩ := ck_some hs
        refine Rc.goL mt_611 4 (f2 := (92, [.ref 12, UU, .int y2_21, UU, UU], [], gm (wL M22 177 (Int32.toNatClampNeg (17 : Int32)) (0 : Int64)))) (b := (ib 26 (17 : Int32) && true)) rfl hb23 ?_
        obtain ⟨e1, e2⟩ := some_p hs; subst e1; subst e2
        exact Rc.ret (v := none) rfl rfl
def qpr_worthOf (x1 : Int32) (M : SM) : Option (Int64 × SM) :=
  if x1 < 0 then
  (some ((lmn (1000000000 : Int64) (lmx (0 : Int64) (0 : Int64))), M)) else
  (if x1 < (26 : Int32) then
    (ck (ib 26 x1 && true) (
      some ((lmn (1000000000 : Int64) (lmx (0 : Int64) (M.2 177 (Int32.toNatClampNeg x1)))), M))) else
    (some ((lmn (1000000000 : Int64) (lmx (0 : Int64) (0 : Int64))), M)))
theorem mt_613 : MT 613 K_613 LN_6 := ⟨rfl, rfl, by decide +kernel⟩
theorem okm_613 : OKm 613 := ⟨⟨vE_613, okL_6, by decide +kernel⟩, by decide +kernel, by decide +kernel, by decide +kernel⟩
set_option maxRecDepth 20000 in
theorem qpr_worthOf_ok (d : Nat) (hd : 1 ≤ d) {x1 : Int32} {M : SM} {r : Int64} {Mz : SM} (hs : qpr_worthOf x1 M = some (r, Mz)) : Ex d 613 [.ref 12, .int x1] (gm M) (some (.long r), gm Mz) := by
  obtain ⟨d, rfl⟩ : ∃ d0, d = d0 + 1 := ⟨d - 1, by omega⟩
  refine Ex.of okm_613 (by omega) (Nat.le_of_ble_eq_true rfl) ?_
  show Rc (d + 1) 613 (0, [.ref 12, .int x1, UU, UU], [], gm M) _
  unfold qpr_worthOf at hs
  by_cases h3 : x1 < 0
  · rw [if_pos h3] at hs
    refine Rc.goL mt_613 1 (f2 := (if x1 < 0 then 22 else 4, [.ref 12, .int x1, UU, UU], [], gm M)) (b := true) rfl rfl ?_
    rw [if_pos h3]
    refine Rc.goL mt_613 0 (f2 := (23, [.ref 12, .int x1, UU, UU], [.long (0 : Int64)], gm M)) (b := true) rfl rfl ?_
    refine Rc.goL mt_613 5 (f2 := (35, [.ref 12, .int x1, .long (0 : Int64), UU], [.long (lmn (1000000000 : Int64) (lmx (0 : Int64) (0 : Int64)))], gm M)) (b := true) rfl rfl ?_
    obtain ⟨e1, e2⟩ := some_p hs; subst e1; subst e2
    exact Rc.ret (v := some (.long (lmn (1000000000 : Int64) (lmx (0 : Int64) (0 : Int64))))) rfl rfl
  · rw [if_neg h3] at hs
    refine Rc.goL mt_613 1 (f2 := (if x1 < 0 then 22 else 4, [.ref 12, .int x1, UU, UU], [], gm M)) (b := true) rfl rfl ?_
    rw [if_neg h3]
    by_cases h2 : x1 < (26 : Int32)
    · rw [if_pos h2] at hs
      refine Rc.goL mt_613 4 (f2 := (if x1 < (26 : Int32) then 13 else 22, [.ref 12, .int x1, UU, UU], [], gm M)) (b := true) rfl rfl ?_
      rw [if_pos h2]
      obtain ⟨hb1, hs⟩ := ck_some hs
      refine Rc.goL mt_613 4 (f2 := (23, [.ref 12, .int x1, UU, UU], [.long (M.2 177 (Int32.toNatClampNeg x1))], gm M)) (b := (ib 26 x1 && true)) rfl hb1 ?_
      refine Rc.goL mt_613 5 (f2 := (35, [.ref 12, .int x1, .long (M.2 177 (Int32.toNatClampNeg x1)), UU], [.long (lmn (1000000000 : Int64) (lmx (0 : Int64) (M.2 177 (Int32.toNatClampNeg x1))))], gm M)) (b := true) rfl rfl ?_
      obtain ⟨e1, e2⟩ := some_p hs; subst e1; subst e2
      exact Rc.ret (v := some (.long (lmn (1000000000 : Int64) (lmx (0 : Int64) (M.2 177 (Int32.toNatClampNeg x1)))))) rfl rfl
    · rw [if_neg h2] at hs
      refine Rc.goL mt_613 4 (f2 := (if x1 < (26 : Int32) then 13 else 22, [.ref 12, .int x1, UU, UU], [], gm M)) (b := true) rfl rfl ?_
      rw [if_neg h2]
      refine Rc.goL mt_613 0 (f2 := (23, [.ref 12, .int x1, UU, UU], [.long (0 : Int64)], gm M)) (b := true) rfl rfl ?_
      refine Rc.goL mt_613 5 (f2 := (35, [.ref 12, .int x1, .long (0 : Int64), UU], [.long (lmn (1000000000 : Int64) (lmx (0 : Int64) (0 : Int64)))], gm M)) (b := true) rfl rfl ?_
      obtain ⟨e1, e2⟩ := some_p hs; subst e1; subst e2
      exact Rc.ret (v := some (.long (lmn (1000000000 : Int64) (lmx (0 : Int64) (0 : Int64))))) rfl rfl
def qpr_wages (M : SM) : Option (Int64 × SM) :=
  ob (qpr_worthOf (22 : Int32) M) (fun r1 M2 =>
  some (r1, M2))
theorem mt_614 : MT 614 K_614 LN_6 := ⟨rfl, rfl, by decide +kernel⟩
theorem okm_614 : OKm 614 := ⟨⟨vE_614, okL_6, by decide +kernel⟩, by decide +kernel, by decide +kernel, by decide +kernel⟩
set_option maxRecDepth 20000 in
theorem qpr_wages_ok (d : Nat) (hd : 2 ≤ d) {M : SM} {r : Int64} {Mz : SM} (hs : qpr_wages M = some (r, Mz)) : Ex d 614 [.ref 12] (gm M) (some (.long r), gm Mz) := by
  obtain ⟨d, rfl⟩ : ∃ d0, d = d0 + 1 := ⟨d - 1, by omega⟩
  refine Ex.of okm_614 (by omega) (Nat.le_of_ble_eq_true rfl) ?_
  show Rc (d + 1) 614 (0, [.ref 12], [], gm M) _
  unfold qpr_wages at hs
  refine Rc.goL mt_614 1 (f2 := (3, [.ref 12], [.int (22 : Int32), .ref 12], gm M)) (b := true) rfl rfl ?_
  obtain ⟨r1, M2, he3, hs⟩ := ob_some hs
  refine Rc.callV (i := 88) (mid' := 613) (av := [.int (22 : Int32)]) (rest := []) (v := some (.long r1)) (M1 := gm M2) (a := 12) rfl rfl rfl cw_613 rfl (Nat.le_of_ble_eq_true rfl) rfl (Nat.le_of_ble_eq_true rfl) (qpr_worthOf_ok _ (by omega) he3) ?_
  obtain ⟨e1, e2⟩ := some_p hs; subst e1; subst e2
  exact Rc.ret (v := some (.long r1)) rfl rfl
def qpr_rent (M : SM) : Option (Int64 × SM) :=
  ob (qpr_worthOf (17 : Int32) M) (fun r1 M2 =>
  some (r1, M2))
theorem mt_615 : MT 615 K_615 LN_6 := ⟨rfl, rfl, by decide +kernel⟩
theorem okm_615 : OKm 615 := ⟨⟨vE_615, okL_6, by decide +kernel⟩, by decide +kernel, by decide +kernel, by decide +kernel⟩
set_option maxRecDepth 20000 in
theorem qpr_rent_ok (d : Nat) (hd : 2 ≤ d) {M : SM} {r : Int64} {Mz : SM} (hs : qpr_rent M = some (r, Mz)) : Ex d 615 [.ref 12] (gm M) (some (.long r), gm Mz) := by
  obtain ⟨d, rfl⟩ : ∃ d0, d = d0 + 1 := ⟨d - 1, by omega⟩
  refine Ex.of okm_615 (by omega) (Nat.le_of_ble_eq_true rfl) ?_
  show Rc (d + 1) 615 (0, [.ref 12], [], gm M) _
  unfold qpr_rent at hs
  refine Rc.goL mt_615 1 (f2 := (3, [.ref 12], [.int (17 : Int32), .ref 12], gm M)) (b := true) rfl rfl ?_
  obtain ⟨r1, M2, he3, hs⟩ := ob_some hs
  refine Rc.callV (i := 88) (mid' := 613) (av := [.int (17 : Int32)]) (rest := []) (v := some (.long r1)) (M1 := gm M2) (a := 12) rfl rfl rfl cw_613 rfl (Nat.le_of_ble_eq_true rfl) rfl (Nat.le_of_ble_eq_true rfl) (qpr_worthOf_ok _ (by omega) he3) ?_
  obtain ⟨e1, e2⟩ := some_p hs; subst e1; subst e2
  exact Rc.ret (v := some (.long r1)) rfl rfl
def qpr_charges (M : SM) : Option (Int64 × SM) :=
  ob (qpr_worthOf (2 : Int32) M) (fun r1 M2 =>
  some (r1, M2))
theorem mt_616 : MT 616 K_616 LN_6 := ⟨rfl, rfl, by decide +kernel⟩
theorem okm_616 : OKm 616 := ⟨⟨vE_616, okL_6, by decide +kernel⟩, by decide +kernel, by decide +kernel, by decide +kernel⟩
set_option maxRecDepth 20000 in
theorem qpr_charges_ok (d : Nat) (hd : 2 ≤ d) {M : SM} {r : Int64} {Mz : SM} (hs : qpr_charges M = some (r, Mz)) : Ex d 616 [.ref 12] (gm M) (some (.long r), gm Mz) := by
  obtain ⟨d, rfl⟩ : ∃ d0, d = d0 + 1 := ⟨d - 1, by omega⟩
  refine Ex.of okm_616 (by omega) (Nat.le_of_ble_eq_true rfl) ?_
  show Rc (d + 1) 616 (0, [.ref 12], [], gm M) _
  unfold qpr_charges at hs
  refine Rc.goL mt_616 1 (f2 := (2, [.ref 12], [.int (2 : Int32), .ref 12], gm M)) (b := true) rfl rfl ?_
  obtain ⟨r1, M2, he3, hs⟩ := ob_some hs
  refine Rc.callV (i := 88) (mid' := 613) (av := [.int (2 : Int32)]) (rest := []) (v := some (.long r1)) (M1 := gm M2) (a := 12) rfl rfl rfl cw_613 rfl (Nat.le_of_ble_eq_true rfl) rfl (Nat.le_of_ble_eq_true rfl) (qpr_worthOf_ok _ (by omega) he3) ?_
  obtain ⟨e1, e2⟩ := some_p hs; subst e1; subst e2
  exact Rc.ret (v := some (.long r1)) rfl rfl
def qpr_netWages (M : SM) : Option (Int64 × SM) :=
  ob (qpr_wages M) (fun r1 M2 =>
  ob (qpr_rent M2) (fun r4 M5 =>
  ob (qpr_charges M5) (fun r7 M8 =>
  some (((r1 - r4) - r7), M8))))
theorem mt_617 : MT 617 K_617 LN_6 := ⟨rfl, rfl, by decide +kernel⟩
theorem okm_617 : OKm 617 := ⟨⟨vE_617, okL_6, by decide +kernel⟩, by decide +kernel, by decide +kernel, by decide +kernel⟩
set_option maxRecDepth 20000 in
theorem qpr_netWages_ok (d : Nat) (hd : 3 ≤ d) {M : SM} {r : Int64} {Mz : SM} (hs : qpr_netWages M = some (r, Mz)) : Ex d 617 [.ref 12] (gm M) (some (.long r), gm Mz) := by
  obtain ⟨d, rfl⟩ : ∃ d0, d = d0 + 1 := ⟨d - 1, by omega⟩
  refine Ex.of okm_617 (by omega) (Nat.le_of_ble_eq_true rfl) ?_
  show Rc (d + 1) 617 (0, [.ref 12], [], gm M) _
  unfold qpr_netWages at hs
  refine Rc.goL mt_617 0 (f2 := (1, [.ref 12], [.ref 12], gm M)) (b := true) rfl rfl ?_
  obtain ⟨r1, M2, he3, hs⟩ := ob_some hs
  refine Rc.callV (i := 91) (mid' := 614) (av := []) (rest := []) (v := some (.long r1)) (M1 := gm M2) (a := 12) rfl rfl rfl cw_614 rfl (Nat.le_of_ble_eq_true rfl) rfl (Nat.le_of_ble_eq_true rfl) (qpr_wages_ok _ (by omega) he3) ?_
  refine Rc.goL mt_617 0 (f2 := (5, [.ref 12], [.ref 12, .long r1], gm M2)) (b := true) rfl rfl ?_
  obtain ⟨r4, M5, he6, hs⟩ := ob_some hs
  refine Rc.callV (i := 95) (mid' := 615) (av := []) (rest := [.long r1]) (v := some (.long r4)) (M1 := gm M5) (a := 12) rfl rfl rfl cw_615 rfl (Nat.le_of_ble_eq_true rfl) rfl (Nat.le_of_ble_eq_true rfl) (qpr_rent_ok _ (by omega) he6) ?_
  refine Rc.goL mt_617 1 (f2 := (10, [.ref 12], [.ref 12, .long (r1 - r4)], gm M5)) (b := true) rfl rfl ?_
  obtain ⟨r7, M8, he9, hs⟩ := ob_some hs
  refine Rc.callV (i := 98) (mid' := 616) (av := []) (rest := [.long (r1 - r4)]) (v := some (.long r7)) (M1 := gm M8) (a := 12) rfl rfl rfl cw_616 rfl (Nat.le_of_ble_eq_true rfl) rfl (Nat.le_of_ble_eq_true rfl) (qpr_charges_ok _ (by omega) he9) ?_
  refine Rc.goL mt_617 0 (f2 := (14, [.ref 12], [.long ((r1 - r4) - r7)], gm M8)) (b := true) rfl rfl ?_
  obtain ⟨e1, e2⟩ := some_p hs; subst e1; subst e2
  exact Rc.ret (v := some (.long ((r1 - r4) - r7))) rfl rfl
def qpr_truck (M : SM) : Option (Int64 × SM) :=
  ob (qpr_worthOf (19 : Int32) M) (fun r1 M2 =>
  ob (qpr_netWages M2) (fun r4 M5 =>
  some ((lmx (0 : Int64) (lmn r1 r4)), M5)))
theorem mt_618 : MT 618 K_618 LN_6 := ⟨rfl, rfl, by decide +kernel⟩
theorem okm_618 : OKm 618 := ⟨⟨vE_618, okL_6, by decide +kernel⟩, by decide +kernel, by decide +kernel, by decide +kernel⟩
set_option maxRecDepth 20000 in
theorem qpr_truck_ok (d : Nat) (hd : 4 ≤ d) {M : SM} {r : Int64} {Mz : SM} (hs : qpr_truck M = some (r, Mz)) : Ex d 618 [.ref 12] (gm M) (some (.long r), gm Mz) := by
  obtain ⟨d, rfl⟩ : ∃ d0, d = d0 + 1 := ⟨d - 1, by omega⟩
  refine Ex.of okm_618 (by omega) (Nat.le_of_ble_eq_true rfl) ?_
  show Rc (d + 1) 618 (0, [.ref 12], [], gm M) _
  unfold qpr_truck at hs
  refine Rc.goL mt_618 2 (f2 := (4, [.ref 12], [.int (19 : Int32), .ref 12, .long (0 : Int64)], gm M)) (b := true) rfl rfl ?_
  obtain ⟨r1, M2, he3, hs⟩ := ob_some hs
  refine Rc.callV (i := 88) (mid' := 613) (av := [.int (19 : Int32)]) (rest := [.long (0 : Int64)]) (v := some (.long r1)) (M1 := gm M2) (a := 12) rfl rfl rfl cw_613 rfl (Nat.le_of_ble_eq_true rfl) rfl (Nat.le_of_ble_eq_true rfl) (qpr_worthOf_ok _ (by omega) he3) ?_
  refine Rc.goL mt_618 0 (f2 := (8, [.ref 12], [.ref 12, .long r1, .long (0 : Int64)], gm M2)) (b := true) rfl rfl ?_
  obtain ⟨r4, M5, he6, hs⟩ := ob_some hs
  refine Rc.callV (i := 101) (mid' := 617) (av := []) (rest := [.long r1, .long (0 : Int64)]) (v := some (.long r4)) (M1 := gm M5) (a := 12) rfl rfl rfl cw_617 rfl (Nat.le_of_ble_eq_true rfl) rfl (Nat.le_of_ble_eq_true rfl) (qpr_netWages_ok _ (by omega) he6) ?_
  refine Rc.goL mt_618 1 (f2 := (17, [.ref 12], [.long (lmx (0 : Int64) (lmn r1 r4))], gm M5)) (b := true) rfl rfl ?_
  obtain ⟨e1, e2⟩ := some_p hs; subst e1; subst e2
  exact Rc.ret (v := some (.long (lmx (0 : Int64) (lmn r1 r4)))) rfl rfl
def qsh_empty (s : Nat) (M : SM) : Option (Unit × SM) :=
  ck (kc 336 s 8 && (kc 336 s 8 && true)) (
  some ((), (wI (wI M s 2 (0 : Int32)) s 3 (0 : Int32))))
theorem mt_801 : MT 801 K_801 LN_8 := ⟨rfl, rfl, by decide +kernel⟩
theorem okm_801 : OKm 801 := ⟨⟨vE_801, okL_8, by decide +kernel⟩, by decide +kernel, by decide +kernel, by decide +kernel⟩
set_option maxRecDepth 20000 in
theorem qsh_empty_ok (d : Nat) (hd : 1 ≤ d) {s : Nat} {M : SM} {r : Unit} {Mz : SM} (hs : qsh_empty s M = some (r, Mz)) : Ex d 801 [.ref s] (gm M) (none, gm Mz) := by
  obtain ⟨d, rfl⟩ : ∃ d0, d = d0 + 1 := ⟨d - 1, by omega⟩
  refine Ex.of okm_801 (by omega) (Nat.le_of_ble_eq_true rfl) ?_
  show Rc (d + 1) 801 (0, [.ref s], [], gm M) _
  unfold qsh_empty at hs
  obtain ⟨hb1, hs⟩ := ck_some hs
  obtain ⟨hb1_0, hb1⟩ := and_t hb1
  obtain ⟨hb1_1, hb1⟩ := and_t hb1
  refine Rc.goL mt_801 2 (f2 := (5, [.ref s], [], gm (wI M s 2 (0 : Int32)))) (b := (kc 336 s 8 && true)) rfl (and_i hb1_0 rfl) ?_
  refine Rc.goL mt_801 2 (f2 := (10, [.ref s], [], gm (wI (wI M s 2 (0 : Int32)) s 3 (0 : Int32)))) (b := (kc 336 s 8 && true)) rfl (and_i hb1_1 rfl) ?_
  obtain ⟨e1, e2⟩ := some_p hs; subst e1; subst e2
  exact Rc.ret (v := none) rfl rfl
def qrd_start (x1 : Nat) (x2 : Int32) (M : SM) : Option (Unit × SM) :=
  ck (Nat.blt x1 1000 && (decide (¬ (Int32.ofNat x1) < 0) && true)) (
  ck (kc 336 (Int32.toNatClampNeg (Int32.ofNat x1)) 8) (ob (qsh_empty (Int32.toNatClampNeg (Int32.ofNat x1)) (wI M 3 1 (Int32.ofNat x1))) (fun _ M3 =>
  some ((), (wI (wI (wI (wI M3 3 2 x2) 3 3 (0 : Int32)) 3 4 (0 : Int32)) 3 5 (0 : Int32))))))
theorem mt_703 : MT 703 K_703 LN_7 := ⟨rfl, rfl, by decide +kernel⟩
theorem okm_703 : OKm 703 := ⟨⟨vE_703, okL_7, by decide +kernel⟩, by decide +kernel, by decide +kernel, by decide +kernel⟩
set_option maxRecDepth 20000 in
theorem qrd_start_ok (d : Nat) (hd : 2 ≤ d) {x1 : Nat} {x2 : Int32} {M : SM} {r : Unit} {Mz : SM} (hs : qrd_start x1 x2 M = some (r, Mz)) : Ex d 703 [.ref 3, .ref x1, .int x2] (gm M) (none, gm Mz) := by
  obtain ⟨d, rfl⟩ : ∃ d0, d = d0 + 1 := ⟨d - 1, by omega⟩
  refine Ex.of okm_703 (by omega) (Nat.le_of_ble_eq_true rfl) ?_
  show Rc (d + 1) 703 (0, [.ref 3, .ref x1, .int x2], [], gm M) _
  unfold qrd_start at hs
  obtain ⟨hb1, hs⟩ := ck_some hs
  obtain ⟨hb1_0, hb1⟩ := and_t hb1
  obtain ⟨hb1_1, hb1⟩ := and_t hb1
  refine Rc.goL mt_703 2 (f2 := (5, [.ref 3, .ref x1, .int x2], [], gm (wI M 3 1 (Int32.ofNat x1)))) (b := (Nat.blt x1 1000 && true)) rfl (and_i hb1_0 rfl) ?_
  refine Rc.goL mt_703 1 (f2 := (9, [.ref 3, .ref x1, .int x2], [.ref (Int32.toNatClampNeg (Int32.ofNat x1))], gm (wI M 3 1 (Int32.ofNat x1)))) (b := (decide (¬ (Int32.ofNat x1) < 0) && true)) rfl (and_i hb1_1 rfl) ?_
  obtain ⟨hk2, hs⟩ := ck_some hs
  obtain ⟨u5, M3, he4, hs⟩ := ob_some hs
  refine Rc.callV (i := 71) (mid' := 801) (av := []) (rest := []) (v := none) (M1 := gm M3) (a := (Int32.toNatClampNeg (Int32.ofNat x1))) rfl rfl rfl cw_801 hk2 (Nat.le_of_ble_eq_true rfl) rfl (Nat.le_of_ble_eq_true rfl) (qsh_empty_ok _ (by omega) he4) ?_
  refine Rc.goL mt_703 2 (f2 := (17, [.ref 3, .ref x1, .int x2], [], gm (wI M3 3 2 x2))) (b := true) rfl rfl ?_
  refine Rc.goL mt_703 2 (f2 := (22, [.ref 3, .ref x1, .int x2], [], gm (wI (wI M3 3 2 x2) 3 3 (0 : Int32)))) (b := true) rfl rfl ?_
  refine Rc.goL mt_703 2 (f2 := (27, [.ref 3, .ref x1, .int x2], [], gm (wI (wI (wI M3 3 2 x2) 3 3 (0 : Int32)) 3 4 (0 : Int32)))) (b := true) rfl rfl ?_
  refine Rc.goL mt_703 2 (f2 := (32, [.ref 3, .ref x1, .int x2], [], gm (wI (wI (wI (wI M3 3 2 x2) 3 3 (0 : Int32)) 3 4 (0 : Int32)) 3 5 (0 : Int32)))) (b := true) rfl rfl ?_
  obtain ⟨e1, e2⟩ := some_p hs; subst e1; subst e2
  exact Rc.ret (v := none) rfl rfl
def qrd_answer (M : SM) : Option (Int32 × SM) :=
  if (M.1 3 4) = 0 then
  (some ((0 : Int32), M)) else
  (some ((((-1000 : Int32) * (M.1 3 4)) - (M.1 3 5)), M))
theorem mt_704 : MT 704 K_704 LN_7 := ⟨rfl, rfl, by decide +kernel⟩
theorem okm_704 : OKm 704 := ⟨⟨vE_704, okL_7, by decide +kernel⟩, by decide +kernel, by decide +kernel, by decide +kernel⟩
set_option maxRecDepth 20000 in
theorem qrd_answer_ok (d : Nat) (hd : 1 ≤ d) {M : SM} {r : Int32} {Mz : SM} (hs : qrd_answer M = some (r, Mz)) : Ex d 704 [.ref 3] (gm M) (some (.int r), gm Mz) := by
  obtain ⟨d, rfl⟩ : ∃ d0, d = d0 + 1 := ⟨d - 1, by omega⟩
  refine Ex.of okm_704 (by omega) (Nat.le_of_ble_eq_true rfl) ?_
  show Rc (d + 1) 704 (0, [.ref 3], [], gm M) _
  unfold qrd_answer at hs
  by_cases h1 : (M.1 3 4) = 0
  · rw [if_pos h1] at hs
    refine Rc.goL mt_704 2 (f2 := (if (M.1 3 4) = 0 then 7 else 11, [.ref 3], [], gm M)) (b := true) rfl rfl ?_
    rw [if_pos h1]
    refine Rc.goL mt_704 1 (f2 := (24, [.ref 3], [.int (0 : Int32)], gm M)) (b := true) rfl rfl ?_
    obtain ⟨e1, e2⟩ := some_p hs; subst e1; subst e2
    exact Rc.ret (v := some (.int (0 : Int32))) rfl rfl
  · rw [if_neg h1] at hs
    refine Rc.goL mt_704 2 (f2 := (if (M.1 3 4) = 0 then 7 else 11, [.ref 3], [], gm M)) (b := true) rfl rfl ?_
    rw [if_neg h1]
    refine Rc.goL mt_704 6 (f2 := (24, [.ref 3], [.int (((-1000 : Int32) * (M.1 3 4)) - (M.1 3 5))], gm M)) (b := true) rfl rfl ?_
    obtain ⟨e1, e2⟩ := some_p hs; subst e1; subst e2
    exact Rc.ret (v := some (.int (((-1000 : Int32) * (M.1 3 4)) - (M.1 3 5)))) rfl rfl
def qrd_next (M : SM) : Option (Int32 × SM) :=
  if (M.1 3 4) = 0 then
  (if (M.1 3 3) < (M.1 3 2) then
    (ob (qtp_byteAt (M.1 3 3) M) (fun r1 M2 =>
      some (r1, M2))) else
    (some ((-1 : Int32), M))) else
  (some ((-1 : Int32), M))
theorem mt_705 : MT 705 K_705 LN_7 := ⟨rfl, rfl, by decide +kernel⟩
theorem okm_705 : OKm 705 := ⟨⟨vE_705, okL_7, by decide +kernel⟩, by decide +kernel, by decide +kernel, by decide +kernel⟩
set_option maxRecDepth 20000 in
theorem qrd_next_ok (d : Nat) (hd : 2 ≤ d) {M : SM} {r : Int32} {Mz : SM} (hs : qrd_next M = some (r, Mz)) : Ex d 705 [.ref 3] (gm M) (some (.int r), gm Mz) := by
  obtain ⟨d, rfl⟩ : ∃ d0, d = d0 + 1 := ⟨d - 1, by omega⟩
  refine Ex.of okm_705 (by omega) (Nat.le_of_ble_eq_true rfl) ?_
  show Rc (d + 1) 705 (0, [.ref 3], [], gm M) _
  unfold qrd_next at hs
  by_cases h5 : (M.1 3 4) = 0
  · rw [if_pos h5] at hs
    refine Rc.goL mt_705 2 (f2 := (if (M.1 3 4) = 0 then 7 else 32, [.ref 3], [], gm M)) (b := true) rfl rfl ?_
    rw [if_pos h5]
    by_cases h4 : (M.1 3 3) < (M.1 3 2)
    · rw [if_pos h4] at hs
      refine Rc.goL mt_705 4 (f2 := (if (M.1 3 3) < (M.1 3 2) then 18 else 32, [.ref 3], [], gm M)) (b := true) rfl rfl ?_
      rw [if_pos h4]
      refine Rc.goL mt_705 3 (f2 := (26, [.ref 3], [.int (M.1 3 3), .ref 1], gm M)) (b := true) rfl rfl ?_
      obtain ⟨r1, M2, he3, hs⟩ := ob_some hs
      refine Rc.callV (i := 77) (mid' := 904) (av := [.int (M.1 3 3)]) (rest := []) (v := some (.int r1)) (M1 := gm M2) (a := 1) rfl rfl rfl cw_904 rfl (Nat.le_of_ble_eq_true rfl) rfl (Nat.le_of_ble_eq_true rfl) (qtp_byteAt_ok _ (by omega) he3) ?_
      refine Rc.goL mt_705 0 (f2 := (33, [.ref 3], [.int r1], gm M2)) (b := true) rfl rfl ?_
      obtain ⟨e1, e2⟩ := some_p hs; subst e1; subst e2
      exact Rc.ret (v := some (.int r1)) rfl rfl
    · rw [if_neg h4] at hs
      refine Rc.goL mt_705 4 (f2 := (if (M.1 3 3) < (M.1 3 2) then 18 else 32, [.ref 3], [], gm M)) (b := true) rfl rfl ?_
      rw [if_neg h4]
      refine Rc.goL mt_705 0 (f2 := (33, [.ref 3], [.int (-1 : Int32)], gm M)) (b := true) rfl rfl ?_
      obtain ⟨e1, e2⟩ := some_p hs; subst e1; subst e2
      exact Rc.ret (v := some (.int (-1 : Int32))) rfl rfl
  · rw [if_neg h5] at hs
    refine Rc.goL mt_705 2 (f2 := (if (M.1 3 4) = 0 then 7 else 32, [.ref 3], [], gm M)) (b := true) rfl rfl ?_
    rw [if_neg h5]
    refine Rc.goL mt_705 0 (f2 := (33, [.ref 3], [.int (-1 : Int32)], gm M)) (b := true) rfl rfl ?_
    obtain ⟨e1, e2⟩ := some_p hs; subst e1; subst e2
    exact Rc.ret (v := some (.int (-1 : Int32))) rfl rfl
def qrd_fail (x1 : Int32) (M : SM) : Option (Unit × SM) :=
  if (M.1 3 4) = 0 then
  (some ((), (wI (wI M 3 4 x1) 3 5 (M.1 3 3)))) else
  (some ((), M))
theorem mt_706 : MT 706 K_706 LN_7 := ⟨rfl, rfl, by decide +kernel⟩
theorem okm_706 : OKm 706 := ⟨⟨vE_706, okL_7, by decide +kernel⟩, by decide +kernel, by decide +kernel, by decide +kernel⟩
set_option maxRecDepth 20000 in
theorem qrd_fail_ok (d : Nat) (hd : 1 ≤ d) {x1 : Int32} {M : SM} {r : Unit} {Mz : SM} (hs : qrd_fail x1 M = some (r, Mz)) : Ex d 706 [.ref 3, .int x1] (gm M) (none, gm Mz) := by
  obtain ⟨d, rfl⟩ : ∃ d0, d = d0 + 1 := ⟨d - 1, by omega⟩
  refine Ex.of okm_706 (by omega) (Nat.le_of_ble_eq_true rfl) ?_
  show Rc (d + 1) 706 (0, [.ref 3, .int x1], [], gm M) _
  unfold qrd_fail at hs
  by_cases h1 : (M.1 3 4) = 0
  · rw [if_pos h1] at hs
    refine Rc.goL mt_706 2 (f2 := (if (M.1 3 4) = 0 then 8 else 7, [.ref 3, .int x1], [], gm M)) (b := true) rfl rfl ?_
    rw [if_pos h1]
    refine Rc.goL mt_706 2 (f2 := (13, [.ref 3, .int x1], [], gm (wI M 3 4 x1))) (b := true) rfl rfl ?_
    refine Rc.goL mt_706 3 (f2 := (21, [.ref 3, .int x1], [], gm (wI (wI M 3 4 x1) 3 5 (M.1 3 3)))) (b := true) rfl rfl ?_
    obtain ⟨e1, e2⟩ := some_p hs; subst e1; subst e2
    exact Rc.ret (v := none) rfl rfl
  · rw [if_neg h1] at hs
    refine Rc.goL mt_706 2 (f2 := (if (M.1 3 4) = 0 then 8 else 7, [.ref 3, .int x1], [], gm M)) (b := true) rfl rfl ?_
    rw [if_neg h1]
    obtain ⟨e1, e2⟩ := some_p hs; subst e1; subst e2
    exact Rc.ret (v := none) rfl rfl
def qrd_expectEnd (M : SM) : Option (Unit × SM) :=
  if (M.1 3 3) < (M.1 3 2) then
  (ob (qrd_fail (1 : Int32) M) (fun _ M1 =>
    some ((), M1))) else
  (some ((), M))
theorem mt_708 : MT 708 K_708 LN_7 := ⟨rfl, rfl, by decide +kernel⟩
theorem okm_708 : OKm 708 := ⟨⟨vE_708, okL_7, by decide +kernel⟩, by decide +kernel, by decide +kernel, by decide +kernel⟩
set_option maxRecDepth 20000 in
theorem qrd_expectEnd_ok (d : Nat) (hd : 2 ≤ d) {M : SM} {r : Unit} {Mz : SM} (hs : qrd_expectEnd M = some (r, Mz)) : Ex d 708 [.ref 3] (gm M) (none, gm Mz) := by
  obtain ⟨d, rfl⟩ : ∃ d0, d = d0 + 1 := ⟨d - 1, by omega⟩
  refine Ex.of okm_708 (by omega) (Nat.le_of_ble_eq_true rfl) ?_
  show Rc (d + 1) 708 (0, [.ref 3], [], gm M) _
  unfold qrd_expectEnd at hs
  by_cases h4 : (M.1 3 3) < (M.1 3 2)
  · rw [if_pos h4] at hs
    refine Rc.goL mt_708 4 (f2 := (if (M.1 3 3) < (M.1 3 2) then 11 else 16, [.ref 3], [], gm M)) (b := true) rfl rfl ?_
    rw [if_pos h4]
    refine Rc.goL mt_708 1 (f2 := (13, [.ref 3], [.int (1 : Int32), .ref 3], gm M)) (b := true) rfl rfl ?_
    obtain ⟨u3, M1, he2, hs⟩ := ob_some hs
    refine Rc.callV (i := 58) (mid' := 706) (av := [.int (1 : Int32)]) (rest := []) (v := none) (M1 := gm M1) (a := 3) rfl rfl rfl cw_706 rfl (Nat.le_of_ble_eq_true rfl) rfl (Nat.le_of_ble_eq_true rfl) (qrd_fail_ok _ (by omega) he2) ?_
    obtain ⟨e1, e2⟩ := some_p hs; subst e1; subst e2
    exact Rc.ret (v := none) rfl rfl
  · rw [if_neg h4] at hs
    refine Rc.goL mt_708 4 (f2 := (if (M.1 3 3) < (M.1 3 2) then 11 else 16, [.ref 3], [], gm M)) (b := true) rfl rfl ?_
    rw [if_neg h4]
    obtain ⟨e1, e2⟩ := some_p hs; subst e1; subst e2
    exact Rc.ret (v := none) rfl rfl
def qsh_doesNeed (s : Nat) (x1 : Int32) (x2 : Int32) (M : SM) : Option (Int32 × SM) :=
  ck (kc 336 s 8) (ob (qsh_has s x1 M) (fun r2 M3 =>
  if r2 = 0 then
  (some ((0 : Int32), M3)) else
  (ck ((kc 336 s 8 && decide (R0 s 7 = some (s + 6))) && (av 336 20 (s + 6) x1 && true)) (
    if (((M3.1 (s + 6) (Int32.toNatClampNeg x1)) >>> (x2 &&& 31)) &&& (1 : Int32)) = 0 then
    (some ((0 : Int32), M3)) else
    (some ((1 : Int32), M3))))))
theorem mt_815 : MT 815 K_815 LN_8 := ⟨rfl, rfl, by decide +kernel⟩
theorem okm_815 : OKm 815 := ⟨⟨vE_815, okL_8, by decide +kernel⟩, by decide +kernel, by decide +kernel, by decide +kernel⟩
set_option maxRecDepth 20000 in
theorem qsh_doesNeed_ok (d : Nat) (hd : 2 ≤ d) {s : Nat} {x1 : Int32} {x2 : Int32} {M : SM} {r : Int32} {Mz : SM} (hs : qsh_doesNeed s x1 x2 M = some (r, Mz)) : Ex d 815 [.ref s, .int x1, .int x2] (gm M) (some (.int r), gm Mz) := by
  obtain ⟨d, rfl⟩ : ∃ d0, d = d0 + 1 := ⟨d - 1, by omega⟩
  refine Ex.of okm_815 (by omega) (Nat.le_of_ble_eq_true rfl) ?_
  show Rc (d + 1) 815 (0, [.ref s, .int x1, .int x2], [], gm M) _
  unfold qsh_doesNeed at hs
  refine Rc.goL mt_815 1 (f2 := (2, [.ref s, .int x1, .int x2], [.int x1, .ref s], gm M)) (b := true) rfl rfl ?_
  obtain ⟨hk1, hs⟩ := ck_some hs
  obtain ⟨r2, M3, he4, hs⟩ := ob_some hs
  refine Rc.callV (i := 55) (mid' := 807) (av := [.int x1]) (rest := []) (v := some (.int r2)) (M1 := gm M3) (a := s) rfl rfl rfl cw_807 hk1 (Nat.le_of_ble_eq_true rfl) rfl (Nat.le_of_ble_eq_true rfl) (qsh_has_ok _ (by omega) he4) ?_
  by_cases h7 : r2 = 0
  · rw [if_pos h7] at hs
    refine Rc.goL mt_815 0 (f2 := (if r2 = 0 then 25 else 8, [.ref s, .int x1, .int x2], [], gm M3)) (b := true) rfl rfl ?_
    rw [if_pos h7]
    refine Rc.goL mt_815 0 (f2 := (26, [.ref s, .int x1, .int x2], [.int (0 : Int32)], gm M3)) (b := true) rfl rfl ?_
    obtain ⟨e1, e2⟩ := some_p hs; subst e1; subst e2
    exact Rc.ret (v := some (.int (0 : Int32))) rfl rfl
  · rw [if_neg h7] at hs
    refine Rc.goL mt_815 0 (f2 := (if r2 = 0 then 25 else 8, [.ref s, .int x1, .int x2], [], gm M3)) (b := true) rfl rfl ?_
    rw [if_neg h7]
    obtain ⟨hb5, hs⟩ := ck_some hs
    obtain ⟨hb5_0, hb5⟩ := and_t hb5
    obtain ⟨hb5_1, hb5⟩ := and_t hb5
    refine Rc.goL mt_815 6 (f2 := (17, [.ref s, .int x1, .int x2], [.int (1 : Int32), .int ((M3.1 (s + 6) (Int32.toNatClampNeg x1)) >>> (x2 &&& 31))], gm M3)) (b := ((kc 336 s 8 && decide (R0 s 7 = some (s + 6))) && (av 336 20 (s + 6) x1 && true))) rfl (and_i hb5_0 (and_i hb5_1 rfl)) ?_
    by_cases h6 : (((M3.1 (s + 6) (Int32.toNatClampNeg x1)) >>> (x2 &&& 31)) &&& (1 : Int32)) = 0
    · rw [if_pos h6] at hs
      refine Rc.goL mt_815 1 (f2 := (if (((M3.1 (s + 6) (Int32.toNatClampNeg x1)) >>> (x2 &&& 31)) &&& (1 : Int32)) = 0 then 25 else 21, [.ref s, .int x1, .int x2], [], gm M3)) (b := true) rfl rfl ?_
      rw [if_pos h6]
      refine Rc.goL mt_815 0 (f2 := (26, [.ref s, .int x1, .int x2], [.int (0 : Int32)], gm M3)) (b := true) rfl rfl ?_
      obtain ⟨e1, e2⟩ := some_p hs; subst e1; subst e2
      exact Rc.ret (v := some (.int (0 : Int32))) rfl rfl
    · rw [if_neg h6] at hs
      refine Rc.goL mt_815 1 (f2 := (if (((M3.1 (s + 6) (Int32.toNatClampNeg x1)) >>> (x2 &&& 31)) &&& (1 : Int32)) = 0 then 25 else 21, [.ref s, .int x1, .int x2], [], gm M3)) (b := true) rfl rfl ?_
      rw [if_neg h6]
      refine Rc.goL mt_815 1 (f2 := (26, [.ref s, .int x1, .int x2], [.int (1 : Int32)], gm M3)) (b := true) rfl rfl ?_
      obtain ⟨e1, e2⟩ := some_p hs; subst e1; subst e2
      exact Rc.ret (v := some (.int (1 : Int32))) rfl rfl
def qsh_followNeeds_L28 (k77 : Nat → Int32 → Int32 → SM → Option (Unit × SM)) : Nat → Nat → Int32 → Int32 → Int32 → SM → Option (Unit × SM)
  | 0, _, _, _, _, _ => none
  | n + 1, x0, x1, x2, x3, M =>
    ck (kc 336 x0 8 && true) (
    if x3 < (M.1 x0 3) then
    (if x3 < (10 : Int32) then
      (ck ((kc 336 x0 8 && decide (R0 x0 4 = some (x0 + 3))) && (av 336 20 (x0 + 3) x3 && true)) (
        ck (kc 336 x0 8) (ob (qsh_doesNeed x0 x2 (M.1 (x0 + 3) (Int32.toNatClampNeg x3)) M) (fun r6 M7 =>
        if r6 = 0 then
        (qsh_followNeeds_L28 k77 n x0 x1 x2 (x3 + (1 : Int32)) M7) else
        (ck ((kc 336 x0 8 && decide (R0 x0 7 = some (x0 + 6))) && (av 336 20 (x0 + 6) x2 && ((kc 336 x0 8 && decide (R0 x0 7 = some (x0 + 6))) && (av 336 20 (x0 + 6) x3 && (av 336 20 (x0 + 6) x2 && true))))) (
          qsh_followNeeds_L28 k77 n x0 x1 x2 (x3 + (1 : Int32)) (wI M7 (x0 + 6) (Int32.toNatClampNeg x2) ((M7.1 (x0 + 6) (Int32.toNatClampNeg x2)) ||| (M7.1 (x0 + 6) (Int32.toNatClampNeg x3)))))))))) else
      (k77 x0 x1 x2 M)) else
    (k77 x0 x1 x2 M))
def qsh_followNeeds_L12 (k83 : Nat → Int32 → SM → Option (Unit × SM)) : Nat → Nat → Int32 → Int32 → SM → Option (Unit × SM)
  | 0, _, _, _, _ => none
  | n + 1, x0, x1, x2, M =>
    ck (kc 336 x0 8 && true) (
    if x2 < (M.1 x0 3) then
    (if x2 < (10 : Int32) then
      (qsh_followNeeds_L28 (fun y0_13 y1_14 y2_15 M16 =>
        qsh_followNeeds_L12 k83 n y0_13 y1_14 (y2_15 + (1 : Int32)) M16) FU x0 x1 x2 (0 : Int32) M) else
      (k83 x0 x1 M)) else
    (k83 x0 x1 M))
def qsh_followNeeds_L2 : Nat → Nat → Int32 → SM → Option (Unit × SM)
  | 0, _, _, _ => none
  | n + 1, x0, x1, M =>
    ck (kc 336 x0 8 && true) (
    if x1 < (M.1 x0 3) then
    (qsh_followNeeds_L12 (fun y0_19 y1_20 M21 =>
      qsh_followNeeds_L2 n y0_19 (y1_20 + (1 : Int32)) M21) FU x0 x1 (0 : Int32) M) else
    (some ((), M)))
def qsh_followNeeds (s : Nat) (M : SM) : Option (Unit × SM) :=
  qsh_followNeeds_L2 FU s (0 : Int32) M
theorem mt_816 : MT 816 K_816 LN_8 := ⟨rfl, rfl, by decide +kernel⟩
theorem okm_816 : OKm 816 := ⟨⟨vE_816, okL_8, by decide +kernel⟩, by decide +kernel, by decide +kernel, by decide +kernel⟩
set_option maxRecDepth 20000 in
theorem qsh_followNeeds_L28_ok (d : Nat) (hd : 3 ≤ d + 1) (k77 : Nat → Int32 → Int32 → SM → Option (Unit × SM)) (hk77 : ∀ (y0 : Nat) (y1 : Int32) (y2 : Int32) (M : SM) (r : Unit) (Mz : SM), k77 y0 y1 y2 M = some (r, Mz) → Rc (d + 1) 816 (77, [.ref y0, .int y1, .int y2, UU], [], gm M) (none, gm Mz)) : ∀ (n : Nat) (x0 : Nat) (x1 : Int32) (x2 : Int32) (x3 : Int32) (M : SM) (r : Unit) (Mz : SM), qsh_followNeeds_L28 k77 n x0 x1 x2 x3 M = some (r, Mz) → Rc (d + 1) 816 (28, [.ref x0, .int x1, .int x2, .int x3], [], gm M) (none, gm Mz) := by
  intro n
  induction n with
  | zero => intro x0 x1 x2 x3 M r Mz hs; cases hs
  | succ n ih =>
    intro x0 x1 x2 x3 M r Mz hs
    rw [qsh_followNeeds_L28] at hs
    obtain ⟨hb3, hs⟩ := ck_some hs
    by_cases h12 : x3 < (M.1 x0 3)
    · rw [if_pos h12] at hs
      refine Rc.goL mt_816 3 (f2 := (if x3 < (M.1 x0 3) then 36 else 77, [.ref x0, .int x1, .int x2, .int x3], [], gm M)) (b := (kc 336 x0 8 && true)) rfl hb3 ?_
      rw [if_pos h12]
      by_cases h11 : x3 < (10 : Int32)
      · rw [if_pos h11] at hs
        refine Rc.goL mt_816 2 (f2 := (if x3 < (10 : Int32) then 42 else 77, [.ref x0, .int x1, .int x2, .int x3], [], gm M)) (b := true) rfl rfl ?_
        rw [if_pos h11]
        obtain ⟨hb4, hs⟩ := ck_some hs
        refine Rc.goL mt_816 5 (f2 := (50, [.ref x0, .int x1, .int x2, .int x3], [.int (M.1 (x0 + 3) (Int32.toNatClampNeg x3)), .int x2, .ref x0], gm M)) (b := ((kc 336 x0 8 && decide (R0 x0 4 = some (x0 + 3))) && (av 336 20 (x0 + 3) x3 && true))) rfl hb4 ?_
        obtain ⟨hk5, hs⟩ := ck_some hs
        obtain ⟨r6, M7, he8, hs⟩ := ob_some hs
        refine Rc.callV (i := 61) (mid' := 815) (av := [.int x2, .int (M.1 (x0 + 3) (Int32.toNatClampNeg x3))]) (rest := []) (v := some (.int r6)) (M1 := gm M7) (a := x0) rfl rfl rfl cw_815 hk5 (Nat.le_of_ble_eq_true rfl) rfl (Nat.le_of_ble_eq_true rfl) (qsh_doesNeed_ok _ (by omega) he8) ?_
        by_cases h10 : r6 = 0
        · rw [if_pos h10] at hs
          refine Rc.goL mt_816 0 (f2 := (if r6 = 0 then 71 else 56, [.ref x0, .int x1, .int x2, .int x3], [], gm M7)) (b := true) rfl rfl ?_
          rw [if_pos h10]
          refine Rc.goL mt_816 1 (f2 := (28, [.ref x0, .int x1, .int x2, .int (x3 + (1 : Int32))], [], gm M7)) (b := true) rfl rfl ?_
          refine Rc.less (ls2 := [.ref x0, .int x1, .int x2, .int (x3 + (1 : Int32))]) (by refine ⟨Or.inr rfl, Or.inr rfl, Or.inr rfl, Or.inr rfl, trivial⟩) ?_
          exact ih x0 x1 x2 (x3 + (1 : Int32)) _ _ _ hs
        · rw [if_neg h10] at hs
          refine Rc.goL mt_816 0 (f2 := (if r6 = 0 then 71 else 56, [.ref x0, .int x1, .int x2, .int x3], [], gm M7)) (b := true) rfl rfl ?_
          rw [if_neg h10]
          obtain ⟨hb9, hs⟩ := ck_some hs
          obtain ⟨hb9_0, hb9⟩ := and_t hb9
          obtain ⟨hb9_1, hb9⟩ := and_t hb9
          obtain ⟨hb9_2, hb9⟩ := and_t hb9
          obtain ⟨hb9_3, hb9⟩ := and_t hb9
          obtain ⟨hb9_4, hb9⟩ := and_t hb9
          refine Rc.goL mt_816 6 (f2 := (67, [.ref x0, .int x1, .int x2, .int x3], [.ref (x0 + 6), .int (M7.1 (x0 + 6) (Int32.toNatClampNeg x2)), .int x2, .ref (x0 + 6)], gm M7)) (b := ((kc 336 x0 8 && decide (R0 x0 7 = some (x0 + 6))) && (av 336 20 (x0 + 6) x2 && ((kc 336 x0 8 && decide (R0 x0 7 = some (x0 + 6))) && true)))) rfl (and_i hb9_0 (and_i hb9_1 (and_i hb9_2 rfl))) ?_
          refine Rc.goL mt_816 3 (f2 := (71, [.ref x0, .int x1, .int x2, .int x3], [], gm (wI M7 (x0 + 6) (Int32.toNatClampNeg x2) ((M7.1 (x0 + 6) (Int32.toNatClampNeg x2)) ||| (M7.1 (x0 + 6) (Int32.toNatClampNeg x3)))))) (b := (av 336 20 (x0 + 6) x3 && (av 336 20 (x0 + 6) x2 && true))) rfl (and_i hb9_3 (and_i hb9_4 rfl)) ?_
          refine Rc.goL mt_816 1 (f2 := (28, [.ref x0, .int x1, .int x2, .int (x3 + (1 : Int32))], [], gm (wI M7 (x0 + 6) (Int32.toNatClampNeg x2) ((M7.1 (x0 + 6) (Int32.toNatClampNeg x2)) ||| (M7.1 (x0 + 6) (Int32.toNatClampNeg x3)))))) (b := true) rfl rfl ?_
          refine Rc.less (ls2 := [.ref x0, .int x1, .int x2, .int (x3 + (1 : Int32))]) (by refine ⟨Or.inr rfl, Or.inr rfl, Or.inr rfl, Or.inr rfl, trivial⟩) ?_
          exact ih x0 x1 x2 (x3 + (1 : Int32)) _ _ _ hs
      · rw [if_neg h11] at hs
        refine Rc.goL mt_816 2 (f2 := (if x3 < (10 : Int32) then 42 else 77, [.ref x0, .int x1, .int x2, .int x3], [], gm M)) (b := true) rfl rfl ?_
        rw [if_neg h11]
        refine Rc.less (ls2 := [.ref x0, .int x1, .int x2, UU]) (by refine ⟨Or.inr rfl, Or.inr rfl, Or.inr rfl, Or.inl rfl, trivial⟩) ?_
        exact hk77 x0 x1 x2 _ _ _ hs
    · rw [if_neg h12] at hs
      refine Rc.goL mt_816 3 (f2 := (if x3 < (M.1 x0 3) then 36 else 77, [.ref x0, .int x1, .int x2, .int x3], [], gm M)) (b := (kc 336 x0 8 && true)) rfl hb3 ?_
      rw [if_neg h12]
      refine Rc.less (ls2 := [.ref x0, .int x1, .int x2, UU]) (by refine ⟨Or.inr rfl, Or.inr rfl, Or.inr rfl, Or.inl rfl, trivial⟩) ?_
      exact hk77 x0 x1 x2 _ _ _ hs
set_option maxRecDepth 20000 in
theorem qsh_followNeeds_L12_ok (d : Nat) (hd : 3 ≤ d + 1) (k83 : Nat → Int32 → SM → Option (Unit × SM)) (hk83 : ∀ (y0 : Nat) (y1 : Int32) (M : SM) (r : Unit) (Mz : SM), k83 y0 y1 M = some (r, Mz) → Rc (d + 1) 816 (83, [.ref y0, .int y1, UU, UU], [], gm M) (none, gm Mz)) : ∀ (n : Nat) (x0 : Nat) (x1 : Int32) (x2 : Int32) (M : SM) (r : Unit) (Mz : SM), qsh_followNeeds_L12 k83 n x0 x1 x2 M = some (r, Mz) → Rc (d + 1) 816 (12, [.ref x0, .int x1, .int x2, UU], [], gm M) (none, gm Mz) := by
  intro n
  induction n with
  | zero => intro x0 x1 x2 M r Mz hs; cases hs
  | succ n ih =>
    intro x0 x1 x2 M r Mz hs
    rw [qsh_followNeeds_L12] at hs
    obtain ⟨hb2, hs⟩ := ck_some hs
    by_cases h18 : x2 < (M.1 x0 3)
    · rw [if_pos h18] at hs
      refine Rc.goL mt_816 3 (f2 := (if x2 < (M.1 x0 3) then 20 else 83, [.ref x0, .int x1, .int x2, UU], [], gm M)) (b := (kc 336 x0 8 && true)) rfl hb2 ?_
      rw [if_pos h18]
      by_cases h17 : x2 < (10 : Int32)
      · rw [if_pos h17] at hs
        refine Rc.goL mt_816 2 (f2 := (if x2 < (10 : Int32) then 26 else 83, [.ref x0, .int x1, .int x2, UU], [], gm M)) (b := true) rfl rfl ?_
        rw [if_pos h17]
        refine Rc.goL mt_816 1 (f2 := (28, [.ref x0, .int x1, .int x2, .int (0 : Int32)], [], gm M)) (b := true) rfl rfl ?_
        refine Rc.less (ls2 := [.ref x0, .int x1, .int x2, .int (0 : Int32)]) (by refine ⟨Or.inr rfl, Or.inr rfl, Or.inr rfl, Or.inr rfl, trivial⟩) ?_
        refine qsh_followNeeds_L28_ok d hd _ (fun y0_13 y1_14 y2_15 M16 r Mz hs => ?_) _ x0 x1 x2 (0 : Int32) _ _ _ hs
        · refine Rc.goL mt_816 1 (f2 := (12, [.ref y0_13, .int y1_14, .int (y2_15 + (1 : Int32)), UU], [], gm M16)) (b := true) rfl rfl ?_
          refine Rc.less (ls2 := [.ref y0_13, .int y1_14, .int (y2_15 + (1 : Int32)), UU]) (by refine ⟨Or.inr rfl, Or.inr rfl, Or.inr rfl, Or.inl rfl, trivial⟩) ?_
          exact ih y0_13 y1_14 (y2_15 + (1 : Int32)) _ _ _ hs
      · rw [if_neg h17] at hs
        refine Rc.goL mt_816 2 (f2 := (if x2 < (10 : Int32) then 26 else 83, [.ref x0, .int x1, .int x2, UU], [], gm M)) (b := true) rfl rfl ?_
        rw [if_neg h17]
        refine Rc.less (ls2 := [.ref x0, .int x1, UU, UU]) (by refine ⟨Or.inr rfl, Or.inr rfl, Or.inl rfl, Or.inl rfl, trivial⟩) ?_
        exact hk83 x0 x1 _ _ _ hs
    · rw [if_neg h18] at hs
      refine Rc.goL mt_816 3 (f2 := (if x2 < (M.1 x0 3) then 20 else 83, [.ref x0, .int x1, .int x2, UU], [], gm M)) (b := (kc 336 x0 8 && true)) rfl hb2 ?_
      rw [if_neg h18]
      refine Rc.less (ls2 := [.ref x0, .int x1, UU, UU]) (by refine ⟨Or.inr rfl, Or.inr rfl, Or.inl rfl, Or.inl rfl, trivial⟩) ?_
      exact hk83 x0 x1 _ _ _ hs
set_option maxRecDepth 20000 in
theorem qsh_followNeeds_L2_ok (d : Nat) (hd : 3 ≤ d + 1) : ∀ (n : Nat) (x0 : Nat) (x1 : Int32) (M : SM) (r : Unit) (Mz : SM), qsh_followNeeds_L2 n x0 x1 M = some (r, Mz) → Rc (d + 1) 816 (2, [.ref x0, .int x1, UU, UU], [], gm M) (none, gm Mz) := by
  intro n
  induction n with
  | zero => intro x0 x1 M r Mz hs; cases hs
  | succ n ih =>
    intro x0 x1 M r Mz hs
    rw [qsh_followNeeds_L2] at hs
    obtain ⟨hb1, hs⟩ := ck_some hs
    by_cases h22 : x1 < (M.1 x0 3)
    · rw [if_pos h22] at hs
      refine Rc.goL mt_816 3 (f2 := (if x1 < (M.1 x0 3) then 10 else 89, [.ref x0, .int x1, UU, UU], [], gm M)) (b := (kc 336 x0 8 && true)) rfl hb1 ?_
      rw [if_pos h22]
      refine Rc.goL mt_816 1 (f2 := (12, [.ref x0, .int x1, .int (0 : Int32), UU], [], gm M)) (b := true) rfl rfl ?_
      refine Rc.less (ls2 := [.ref x0, .int x1, .int (0 : Int32), UU]) (by refine ⟨Or.inr rfl, Or.inr rfl, Or.inr rfl, Or.inl rfl, trivial⟩) ?_
      refine qsh_followNeeds_L12_ok d hd _ (fun y0_19 y1_20 M21 r Mz hs => ?_) _ x0 x1 (0 : Int32) _ _ _ hs
      · refine Rc.goL mt_816 1 (f2 := (2, [.ref y0_19, .int (y1_20 + (1 : Int32)), UU, UU], [], gm M21)) (b := true) rfl rfl ?_
        refine Rc.less (ls2 := [.ref y0_19, .int (y1_20 + (1 : Int32)), UU, UU]) (by refine ⟨Or.inr rfl, Or.inr rfl, Or.inl rfl, Or.inl rfl, trivial⟩) ?_
        exact ih y0_19 (y1_20 + (1 : Int32)) _ _ _ hs
    · rw [if_neg h22] at hs
      refine Rc.goL mt_816 3 (f2 := (if x1 < (M.1 x0 3) then 10 else 89, [.ref x0, .int x1, UU, UU], [], gm M)) (b := (kc 336 x0 8 && true)) rfl hb1 ?_
      rw [if_neg h22]
      obtain ⟨e1, e2⟩ := some_p hs; subst e1; subst e2
      exact Rc.ret (v := none) rfl rfl
set_option maxRecDepth 20000 in
theorem qsh_followNeeds_ok (d : Nat) (hd : 3 ≤ d) {s : Nat} {M : SM} {r : Unit} {Mz : SM} (hs : qsh_followNeeds s M = some (r, Mz)) : Ex d 816 [.ref s] (gm M) (none, gm Mz) := by
  obtain ⟨d, rfl⟩ : ∃ d0, d = d0 + 1 := ⟨d - 1, by omega⟩
  refine Ex.of okm_816 (by omega) (Nat.le_of_ble_eq_true rfl) ?_
  show Rc (d + 1) 816 (0, [.ref s, UU, UU, UU], [], gm M) _
  unfold qsh_followNeeds at hs
  refine Rc.goL mt_816 1 (f2 := (2, [.ref s, .int (0 : Int32), UU, UU], [], gm M)) (b := true) rfl rfl ?_
  refine Rc.less (ls2 := [.ref s, .int (0 : Int32), UU, UU]) (by refine ⟨Or.inr rfl, Or.inr rfl, Or.inl rfl, Or.inl rfl, trivial⟩) ?_
  exact qsh_followNeeds_L2_ok d hd _ s (0 : Int32) _ _ _ hs
def qsh_placeOfRing_L2 : Nat → Nat → Int32 → SM → Option (Int32 × SM)
  | 0, _, _, _ => none
  | n + 1, x0, x1, M =>
    ck (kc 336 x0 8 && true) (
    if x1 < (M.1 x0 3) then
    (if x1 < (10 : Int32) then
      (ck ((kc 336 x0 8 && decide (R0 x0 4 = some (x0 + 3))) && (av 336 20 (x0 + 3) x1 && true)) (
        ck (kc 336 x0 8) (ob (qsh_doesNeed x0 x1 (M.1 (x0 + 3) (Int32.toNatClampNeg x1)) M) (fun r4 M5 =>
        if r4 = 0 then
        (qsh_placeOfRing_L2 n x0 (x1 + (1 : Int32)) M5) else
        (ck ((kc 336 x0 8 && decide (R0 x0 5 = some (x0 + 4))) && (av 336 20 (x0 + 4) x1 && true)) (
          some ((M5.1 (x0 + 4) (Int32.toNatClampNeg x1)), M5))))))) else
      (some ((-1 : Int32), M))) else
    (some ((-1 : Int32), M)))
def qsh_placeOfRing (s : Nat) (M : SM) : Option (Int32 × SM) :=
  qsh_placeOfRing_L2 FU s (0 : Int32) M
theorem mt_817 : MT 817 K_817 LN_8 := ⟨rfl, rfl, by decide +kernel⟩
theorem okm_817 : OKm 817 := ⟨⟨vE_817, okL_8, by decide +kernel⟩, by decide +kernel, by decide +kernel, by decide +kernel⟩
set_option maxRecDepth 20000 in
theorem qsh_placeOfRing_L2_ok (d : Nat) (hd : 3 ≤ d + 1) : ∀ (n : Nat) (x0 : Nat) (x1 : Int32) (M : SM) (r : Int32) (Mz : SM), qsh_placeOfRing_L2 n x0 x1 M = some (r, Mz) → Rc (d + 1) 817 (2, [.ref x0, .int x1], [], gm M) (some (.int r), gm Mz) := by
  intro n
  induction n with
  | zero => intro x0 x1 M r Mz hs; cases hs
  | succ n ih =>
    intro x0 x1 M r Mz hs
    rw [qsh_placeOfRing_L2] at hs
    obtain ⟨hb1, hs⟩ := ck_some hs
    by_cases h10 : x1 < (M.1 x0 3)
    · rw [if_pos h10] at hs
      refine Rc.goL mt_817 3 (f2 := (if x1 < (M.1 x0 3) then 10 else 43, [.ref x0, .int x1], [], gm M)) (b := (kc 336 x0 8 && true)) rfl hb1 ?_
      rw [if_pos h10]
      by_cases h9 : x1 < (10 : Int32)
      · rw [if_pos h9] at hs
        refine Rc.goL mt_817 2 (f2 := (if x1 < (10 : Int32) then 16 else 43, [.ref x0, .int x1], [], gm M)) (b := true) rfl rfl ?_
        rw [if_pos h9]
        obtain ⟨hb2, hs⟩ := ck_some hs
        refine Rc.goL mt_817 5 (f2 := (24, [.ref x0, .int x1], [.int (M.1 (x0 + 3) (Int32.toNatClampNeg x1)), .int x1, .ref x0], gm M)) (b := ((kc 336 x0 8 && decide (R0 x0 4 = some (x0 + 3))) && (av 336 20 (x0 + 3) x1 && true))) rfl hb2 ?_
        obtain ⟨hk3, hs⟩ := ck_some hs
        obtain ⟨r4, M5, he6, hs⟩ := ob_some hs
        refine Rc.callV (i := 61) (mid' := 815) (av := [.int x1, .int (M.1 (x0 + 3) (Int32.toNatClampNeg x1))]) (rest := []) (v := some (.int r4)) (M1 := gm M5) (a := x0) rfl rfl rfl cw_815 hk3 (Nat.le_of_ble_eq_true rfl) rfl (Nat.le_of_ble_eq_true rfl) (qsh_doesNeed_ok _ (by omega) he6) ?_
        by_cases h8 : r4 = 0
        · rw [if_pos h8] at hs
          refine Rc.goL mt_817 0 (f2 := (if r4 = 0 then 37 else 30, [.ref x0, .int x1], [], gm M5)) (b := true) rfl rfl ?_
          rw [if_pos h8]
          refine Rc.goL mt_817 1 (f2 := (2, [.ref x0, .int (x1 + (1 : Int32))], [], gm M5)) (b := true) rfl rfl ?_
          refine Rc.less (ls2 := [.ref x0, .int (x1 + (1 : Int32))]) (by refine ⟨Or.inr rfl, Or.inr rfl, trivial⟩) ?_
          exact ih x0 (x1 + (1 : Int32)) _ _ _ hs
        · rw [if_neg h8] at hs
          refine Rc.goL mt_817 0 (f2 := (if r4 = 0 then 37 else 30, [.ref x0, .int x1], [], gm M5)) (b := true) rfl rfl ?_
          rw [if_neg h8]
          obtain ⟨hb7, hs⟩ := ck_some hs
          refine Rc.goL mt_817 3 (f2 := (36, [.ref x0, .int x1], [.int (M5.1 (x0 + 4) (Int32.toNatClampNeg x1))], gm M5)) (b := ((kc 336 x0 8 && decide (R0 x0 5 = some (x0 + 4))) && (av 336 20 (x0 + 4) x1 && true))) rfl hb7 ?_
          obtain ⟨e1, e2⟩ := some_p hs; subst e1; subst e2
          exact Rc.ret (v := some (.int (M5.1 (x0 + 4) (Int32.toNatClampNeg x1)))) rfl rfl
      · rw [if_neg h9] at hs
        refine Rc.goL mt_817 2 (f2 := (if x1 < (10 : Int32) then 16 else 43, [.ref x0, .int x1], [], gm M)) (b := true) rfl rfl ?_
        rw [if_neg h9]
        refine Rc.goL mt_817 0 (f2 := (44, [.ref x0, .int x1], [.int (-1 : Int32)], gm M)) (b := true) rfl rfl ?_
        obtain ⟨e1, e2⟩ := some_p hs; subst e1; subst e2
        exact Rc.ret (v := some (.int (-1 : Int32))) rfl rfl
    · rw [if_neg h10] at hs
      refine Rc.goL mt_817 3 (f2 := (if x1 < (M.1 x0 3) then 10 else 43, [.ref x0, .int x1], [], gm M)) (b := (kc 336 x0 8 && true)) rfl hb1 ?_
      rw [if_neg h10]
      refine Rc.goL mt_817 0 (f2 := (44, [.ref x0, .int x1], [.int (-1 : Int32)], gm M)) (b := true) rfl rfl ?_
      obtain ⟨e1, e2⟩ := some_p hs; subst e1; subst e2
      exact Rc.ret (v := some (.int (-1 : Int32))) rfl rfl
set_option maxRecDepth 20000 in
theorem qsh_placeOfRing_ok (d : Nat) (hd : 3 ≤ d) {s : Nat} {M : SM} {r : Int32} {Mz : SM} (hs : qsh_placeOfRing s M = some (r, Mz)) : Ex d 817 [.ref s] (gm M) (some (.int r), gm Mz) := by
  obtain ⟨d, rfl⟩ : ∃ d0, d = d0 + 1 := ⟨d - 1, by omega⟩
  refine Ex.of okm_817 (by omega) (Nat.le_of_ble_eq_true rfl) ?_
  show Rc (d + 1) 817 (0, [.ref s, UU], [], gm M) _
  unfold qsh_placeOfRing at hs
  refine Rc.goL mt_817 1 (f2 := (2, [.ref s, .int (0 : Int32)], [], gm M)) (b := true) rfl rfl ?_
  refine Rc.less (ls2 := [.ref s, .int (0 : Int32)]) (by refine ⟨Or.inr rfl, Or.inr rfl, trivial⟩) ?_
  exact qsh_placeOfRing_L2_ok d hd _ s (0 : Int32) _ _ _ hs
def qsh_putInOrder_L12 (k64 : Nat → Int32 → Int32 → SM → Option (Unit × SM)) : Nat → Nat → Int32 → Int32 → Int32 → SM → Option (Unit × SM)
  | 0, _, _, _, _, _ => none
  | n + 1, x0, x1, x2, x3, M =>
    ck (kc 336 x0 8 && true) (
    if x3 < (M.1 x0 3) then
    (if x3 < (10 : Int32) then
      (ck ((kc 336 x0 8 && decide (R0 x0 7 = some (x0 + 6))) && (av 336 20 (x0 + 6) x3 && true)) (
        ob (qjI_bitCount (M.1 (x0 + 6) (Int32.toNatClampNeg x3)) M) (fun r3 M4 =>
        if r3 = x2 then
        (if x1 < (10 : Int32) then
          (ck ((kc 336 x0 8 && decide (R0 x0 8 = some (x0 + 7))) && (av 336 20 (x0 + 7) x1 && true)) (
            qsh_putInOrder_L12 k64 n x0 (x1 + (1 : Int32)) x2 (x3 + (1 : Int32)) (wI M4 (x0 + 7) (Int32.toNatClampNeg x1) x3))) else
          (qsh_putInOrder_L12 k64 n x0 x1 x2 (x3 + (1 : Int32)) M4)) else
        (qsh_putInOrder_L12 k64 n x0 x1 x2 (x3 + (1 : Int32)) M4)))) else
      (k64 x0 x1 x2 M)) else
    (k64 x0 x1 x2 M))
def qsh_putInOrder_L4 : Nat → Nat → Int32 → Int32 → SM → Option (Unit × SM)
  | 0, _, _, _, _ => none
  | n + 1, x0, x1, x2, M =>
    if (26 : Int32) < x2 then
    (some ((), M)) else
    (qsh_putInOrder_L12 (fun y0_11 y1_12 y2_13 M14 =>
      qsh_putInOrder_L4 n y0_11 y1_12 (y2_13 + (1 : Int32)) M14) FU x0 x1 x2 (0 : Int32) M)
def qsh_putInOrder (s : Nat) (M : SM) : Option (Unit × SM) :=
  qsh_putInOrder_L4 FU s (0 : Int32) (0 : Int32) M
theorem mt_818 : MT 818 K_818 LN_8 := ⟨rfl, rfl, by decide +kernel⟩
theorem okm_818 : OKm 818 := ⟨⟨vE_818, okL_8, by decide +kernel⟩, by decide +kernel, by decide +kernel, by decide +kernel⟩
set_option maxRecDepth 20000 in
theorem qsh_putInOrder_L12_ok (d : Nat) (hd : 2 ≤ d + 1) (k64 : Nat → Int32 → Int32 → SM → Option (Unit × SM)) (hk64 : ∀ (y0 : Nat) (y1 : Int32) (y2 : Int32) (M : SM) (r : Unit) (Mz : SM), k64 y0 y1 y2 M = some (r, Mz) → Rc (d + 1) 818 (64, [.ref y0, .int y1, .int y2, UU], [], gm M) (none, gm Mz)) : ∀ (n : Nat) (x0 : Nat) (x1 : Int32) (x2 : Int32) (x3 : Int32) (M : SM) (r : Unit) (Mz : SM), qsh_putInOrder_L12 k64 n x0 x1 x2 x3 M = some (r, Mz) → Rc (d + 1) 818 (12, [.ref x0, .int x1, .int x2, .int x3], [], gm M) (none, gm Mz) := by
  intro n
  induction n with
  | zero => intro x0 x1 x2 x3 M r Mz hs; cases hs
  | succ n ih =>
    intro x0 x1 x2 x3 M r Mz hs
    rw [qsh_putInOrder_L12] at hs
    obtain ⟨hb1, hs⟩ := ck_some hs
    by_cases h10 : x3 < (M.1 x0 3)
    · rw [if_pos h10] at hs
      refine Rc.goL mt_818 3 (f2 := (if x3 < (M.1 x0 3) then 20 else 64, [.ref x0, .int x1, .int x2, .int x3], [], gm M)) (b := (kc 336 x0 8 && true)) rfl hb1 ?_
      rw [if_pos h10]
      by_cases h9 : x3 < (10 : Int32)
      · rw [if_pos h9] at hs
        refine Rc.goL mt_818 2 (f2 := (if x3 < (10 : Int32) then 26 else 64, [.ref x0, .int x1, .int x2, .int x3], [], gm M)) (b := true) rfl rfl ?_
        rw [if_pos h9]
        obtain ⟨hb2, hs⟩ := ck_some hs
        refine Rc.goL mt_818 3 (f2 := (32, [.ref x0, .int x1, .int x2, .int x3], [.int (M.1 (x0 + 6) (Int32.toNatClampNeg x3))], gm M)) (b := ((kc 336 x0 8 && decide (R0 x0 7 = some (x0 + 6))) && (av 336 20 (x0 + 6) x3 && true))) rfl hb2 ?_
        obtain ⟨r3, M4, he5, hs⟩ := ob_some hs
        refine Rc.callS (i := 65) (mid' := 1300) (av := [.int (M.1 (x0 + 6) (Int32.toNatClampNeg x3))]) (rest := []) (v := some (.int r3)) (M1 := gm M4) rfl (Or.inl rfl) rfl cw_1300 rfl (Nat.le_of_ble_eq_true rfl) (qjI_bitCount_ok _ (by omega) he5) ?_
        by_cases h8 : r3 = x2
        · rw [if_pos h8] at hs
          refine Rc.goL mt_818 1 (f2 := (if r3 = x2 then 39 else 58, [.ref x0, .int x1, .int x2, .int x3], [], gm M4)) (b := true) rfl rfl ?_
          rw [if_pos h8]
          by_cases h7 : x1 < (10 : Int32)
          · rw [if_pos h7] at hs
            refine Rc.goL mt_818 2 (f2 := (if x1 < (10 : Int32) then 48 else 45, [.ref x0, .int x1, .int x2, .int x3], [], gm M4)) (b := true) rfl rfl ?_
            rw [if_pos h7]
            obtain ⟨hb6, hs⟩ := ck_some hs
            obtain ⟨hb6_0, hb6⟩ := and_t hb6
            obtain ⟨hb6_1, hb6⟩ := and_t hb6
            refine Rc.goL mt_818 4 (f2 := (55, [.ref x0, .int x1, .int x2, .int x3], [], gm (wI M4 (x0 + 7) (Int32.toNatClampNeg x1) x3))) (b := ((kc 336 x0 8 && decide (R0 x0 8 = some (x0 + 7))) && (av 336 20 (x0 + 7) x1 && true))) rfl (and_i hb6_0 (and_i hb6_1 rfl)) ?_
            refine Rc.goL mt_818 0 (f2 := (58, [.ref x0, .int (x1 + (1 : Int32)), .int x2, .int x3], [], gm (wI M4 (x0 + 7) (Int32.toNatClampNeg x1) x3))) (b := true) rfl rfl ?_
            refine Rc.goL mt_818 1 (f2 := (12, [.ref x0, .int (x1 + (1 : Int32)), .int x2, .int (x3 + (1 : Int32))], [], gm (wI M4 (x0 + 7) (Int32.toNatClampNeg x1) x3))) (b := true) rfl rfl ?_
            refine Rc.less (ls2 := [.ref x0, .int (x1 + (1 : Int32)), .int x2, .int (x3 + (1 : Int32))]) (by refine ⟨Or.inr rfl, Or.inr rfl, Or.inr rfl, Or.inr rfl, trivial⟩) ?_
            exact ih x0 (x1 + (1 : Int32)) x2 (x3 + (1 : Int32)) _ _ _ hs
          · rw [if_neg h7] at hs
            refine Rc.goL mt_818 2 (f2 := (if x1 < (10 : Int32) then 48 else 45, [.ref x0, .int x1, .int x2, .int x3], [], gm M4)) (b := true) rfl rfl ?_
            rw [if_neg h7]
            refine Rc.goL mt_818 0 (f2 := (58, [.ref x0, .int x1, .int x2, .int x3], [], gm M4)) (b := true) rfl rfl ?_
            refine Rc.goL mt_818 1 (f2 := (12, [.ref x0, .int x1, .int x2, .int (x3 + (1 : Int32))], [], gm M4)) (b := true) rfl rfl ?_
            refine Rc.less (ls2 := [.ref x0, .int x1, .int x2, .int (x3 + (1 : Int32))]) (by refine ⟨Or.inr rfl, Or.inr rfl, Or.inr rfl, Or.inr rfl, trivial⟩) ?_
            exact ih x0 x1 x2 (x3 + (1 : Int32)) _ _ _ hs
        · rw [if_neg h8] at hs
          refine Rc.goL mt_818 1 (f2 := (if r3 = x2 then 39 else 58, [.ref x0, .int x1, .int x2, .int x3], [], gm M4)) (b := true) rfl rfl ?_
          rw [if_neg h8]
          refine Rc.goL mt_818 1 (f2 := (12, [.ref x0, .int x1, .int x2, .int (x3 + (1 : Int32))], [], gm M4)) (b := true) rfl rfl ?_
          refine Rc.less (ls2 := [.ref x0, .int x1, .int x2, .int (x3 + (1 : Int32))]) (by refine ⟨Or.inr rfl, Or.inr rfl, Or.inr rfl, Or.inr rfl, trivial⟩) ?_
          exact ih x0 x1 x2 (x3 + (1 : Int32)) _ _ _ hs
      · rw [if_neg h9] at hs
        refine Rc.goL mt_818 2 (f2 := (if x3 < (10 : Int32) then 26 else 64, [.ref x0, .int x1, .int x2, .int x3], [], gm M)) (b := true) rfl rfl ?_
        rw [if_neg h9]
        refine Rc.less (ls2 := [.ref x0, .int x1, .int x2, UU]) (by refine ⟨Or.inr rfl, Or.inr rfl, Or.inr rfl, Or.inl rfl, trivial⟩) ?_
        exact hk64 x0 x1 x2 _ _ _ hs
    · rw [if_neg h10] at hs
      refine Rc.goL mt_818 3 (f2 := (if x3 < (M.1 x0 3) then 20 else 64, [.ref x0, .int x1, .int x2, .int x3], [], gm M)) (b := (kc 336 x0 8 && true)) rfl hb1 ?_
      rw [if_neg h10]
      refine Rc.less (ls2 := [.ref x0, .int x1, .int x2, UU]) (by refine ⟨Or.inr rfl, Or.inr rfl, Or.inr rfl, Or.inl rfl, trivial⟩) ?_
      exact hk64 x0 x1 x2 _ _ _ hs
set_option maxRecDepth 20000 in
theorem qsh_putInOrder_L4_ok (d : Nat) (hd : 2 ≤ d + 1) : ∀ (n : Nat) (x0 : Nat) (x1 : Int32) (x2 : Int32) (M : SM) (r : Unit) (Mz : SM), qsh_putInOrder_L4 n x0 x1 x2 M = some (r, Mz) → Rc (d + 1) 818 (4, [.ref x0, .int x1, .int x2, UU], [], gm M) (none, gm Mz) := by
  intro n
  induction n with
  | zero => intro x0 x1 x2 M r Mz hs; cases hs
  | succ n ih =>
    intro x0 x1 x2 M r Mz hs
    rw [qsh_putInOrder_L4] at hs
    by_cases h15 : (26 : Int32) < x2
    · rw [if_pos h15] at hs
      refine Rc.goL mt_818 2 (f2 := (if (26 : Int32) < x2 then 70 else 10, [.ref x0, .int x1, .int x2, UU], [], gm M)) (b := true) rfl rfl ?_
      rw [if_pos h15]
      obtain ⟨e1, e2⟩ := some_p hs; subst e1; subst e2
      exact Rc.ret (v := none) rfl rfl
    · rw [if_neg h15] at hs
      refine Rc.goL mt_818 2 (f2 := (if (26 : Int32) < x2 then 70 else 10, [.ref x0, .int x1, .int x2, UU], [], gm M)) (b := true) rfl rfl ?_
      rw [if_neg h15]
      refine Rc.goL mt_818 1 (f2 := (12, [.ref x0, .int x1, .int x2, .int (0 : Int32)], [], gm M)) (b := true) rfl rfl ?_
      refine Rc.less (ls2 := [.ref x0, .int x1, .int x2, .int (0 : Int32)]) (by refine ⟨Or.inr rfl, Or.inr rfl, Or.inr rfl, Or.inr rfl, trivial⟩) ?_
      refine qsh_putInOrder_L12_ok d hd _ (fun y0_11 y1_12 y2_13 M14 r Mz hs => ?_) _ x0 x1 x2 (0 : Int32) _ _ _ hs
      · refine Rc.goL mt_818 1 (f2 := (4, [.ref y0_11, .int y1_12, .int (y2_13 + (1 : Int32)), UU], [], gm M14)) (b := true) rfl rfl ?_
        refine Rc.less (ls2 := [.ref y0_11, .int y1_12, .int (y2_13 + (1 : Int32)), UU]) (by refine ⟨Or.inr rfl, Or.inr rfl, Or.inr rfl, Or.inl rfl, trivial⟩) ?_
        exact ih y0_11 y1_12 (y2_13 + (1 : Int32)) _ _ _ hs
set_option maxRecDepth 20000 in
theorem qsh_putInOrder_ok (d : Nat) (hd : 2 ≤ d) {s : Nat} {M : SM} {r : Unit} {Mz : SM} (hs : qsh_putInOrder s M = some (r, Mz)) : Ex d 818 [.ref s] (gm M) (none, gm Mz) := by
  obtain ⟨d, rfl⟩ : ∃ d0, d = d0 + 1 := ⟨d - 1, by omega⟩
  refine Ex.of okm_818 (by omega) (Nat.le_of_ble_eq_true rfl) ?_
  show Rc (d + 1) 818 (0, [.ref s, UU, UU, UU], [], gm M) _
  unfold qsh_putInOrder at hs
  refine Rc.goL mt_818 3 (f2 := (4, [.ref s, .int (0 : Int32), .int (0 : Int32), UU], [], gm M)) (b := true) rfl rfl ?_
  refine Rc.less (ls2 := [.ref s, .int (0 : Int32), .int (0 : Int32), UU]) (by refine ⟨Or.inr rfl, Or.inr rfl, Or.inr rfl, Or.inl rfl, trivial⟩) ?_
  exact qsh_putInOrder_L4_ok d hd _ s (0 : Int32) (0 : Int32) _ _ _ hs
