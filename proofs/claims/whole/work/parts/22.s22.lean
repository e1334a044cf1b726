def qfu_add (x1 : Int32) (M : SM) : Option (Int32 × SM) :=
  if ((1000000000 : Int32) - (M.1 278 0)) < x1 then
  (some ((-1 : Int32), M)) else
  (some (((M.1 278 0) + x1), (wI M 278 0 ((M.1 278 0) + x1))))
theorem mt_301 : MT 301 K_301 LN_3 := ⟨rfl, rfl, by decide +kernel⟩
theorem okm_301 : OKm 301 := ⟨⟨vE_301, okL_3, by decide +kernel⟩, by decide +kernel, by decide +kernel, by decide +kernel⟩
set_option maxRecDepth 20000 in
theorem qfu_add_ok (d : Nat) (hd : 1 ≤ d) {x1 : Int32} {M : SM} {r : Int32} {Mz : SM} (hs : qfu_add x1 M = some (r, Mz)) : Ex d 301 [.ref 278, .int x1] (gm M) (some (.int r), gm Mz) := by
  obtain ⟨d, rfl⟩ : ∃ d0, d = d0 + 1 := ⟨d - 1, by omega⟩
  refine Ex.of okm_301 (by omega) (Nat.le_of_ble_eq_true rfl) ?_
  show Rc (d + 1) 301 (0, [.ref 278, .int x1], [], gm M) _
  unfold qfu_add at hs
  by_cases h1 : ((1000000000 : Int32) - (M.1 278 0)) < x1
  · rw [if_pos h1] at hs
    refine Rc.goL mt_301 5 (f2 := (if ((1000000000 : Int32) - (M.1 278 0)) < x1 then 11 else 13, [.ref 278, .int x1], [], gm M)) (b := true) rfl rfl ?_
    rw [if_pos h1]
    refine Rc.goL mt_301 0 (f2 := (12, [.ref 278, .int x1], [.int (-1 : Int32)], gm M)) (b := true) rfl rfl ?_
    obtain ⟨e1, e2⟩ := some_p hs; subst e1; subst e2
    exact Rc.ret (v := some (.int (-1 : Int32))) rfl rfl
  · rw [if_neg h1] at hs
    refine Rc.goL mt_301 5 (f2 := (if ((1000000000 : Int32) - (M.1 278 0)) < x1 then 11 else 13, [.ref 278, .int x1], [], gm M)) (b := true) rfl rfl ?_
    rw [if_neg h1]
    refine Rc.goL mt_301 5 (f2 := (23, [.ref 278, .int x1], [], gm (wI M 278 0 ((M.1 278 0) + x1)))) (b := true) rfl rfl ?_
    refine Rc.goL mt_301 1 (f2 := (27, [.ref 278, .int x1], [.int ((M.1 278 0) + x1)], gm (wI M 278 0 ((M.1 278 0) + x1)))) (b := true) rfl rfl ?_
    obtain ⟨e1, e2⟩ := some_p hs; subst e1; subst e2
    exact Rc.ret (v := some (.int ((M.1 278 0) + x1))) rfl rfl
def qfu_isStriker (x1 : Int32) (M : SM) : Option (Int32 × SM) :=
  if x1 < 0 then
  (some ((0 : Int32), M)) else
  (if x1 < (12 : Int32) then
    (ck (ib 12 x1 && true) (
      if (M.1 279 (Int32.toNatClampNeg x1)) = 0 then
      (some ((0 : Int32), M)) else
      (some ((1 : Int32), M)))) else
    (some ((0 : Int32), M)))
theorem mt_302 : MT 302 K_302 LN_3 := ⟨rfl, rfl, by decide +kernel⟩
theorem okm_302 : OKm 302 := ⟨⟨vE_302, okL_3, by decide +kernel⟩, by decide +kernel, by decide +kernel, by decide +kernel⟩
set_option maxRecDepth 20000 in
theorem qfu_isStriker_ok (d : Nat) (hd : 1 ≤ d) {x1 : Int32} {M : SM} {r : Int32} {Mz : SM} (hs : qfu_isStriker x1 M = some (r, Mz)) : Ex d 302 [.ref 278, .int x1] (gm M) (some (.int r), gm Mz) := by
  obtain ⟨d, rfl⟩ : ∃ d0, d = d0 + 1 := ⟨d - 1, by omega⟩
  refine Ex.of okm_302 (by omega) (Nat.le_of_ble_eq_true rfl) ?_
  show Rc (d + 1) 302 (0, [.ref 278, .int x1], [], gm M) _
  unfold qfu_isStriker at hs
  by_cases h4 : x1 < 0
  · rw [if_pos h4] at hs
    refine Rc.goL mt_302 1 (f2 := (if x1 < 0 then 26 else 4, [.ref 278, .int x1], [], gm M)) (b := true) rfl rfl ?_
    rw [if_pos h4]
    refine Rc.goL mt_302 0 (f2 := (27, [.ref 278, .int x1], [.int (0 : Int32)], gm M)) (b := true) rfl rfl ?_
    obtain ⟨e1, e2⟩ := some_p hs; subst e1; subst e2
    exact Rc.ret (v := some (.int (0 : Int32))) rfl rfl
  · rw [if_neg h4] at hs
    refine Rc.goL mt_302 1 (f2 := (if x1 < 0 then 26 else 4, [.ref 278, .int x1], [], gm M)) (b := true) rfl rfl ?_
    rw [if_neg h4]
    by_cases h3 : x1 < (12 : Int32)
    · rw [if_pos h3] at hs
      refine Rc.goL mt_302 4 (f2 := (if x1 < (12 : Int32) then 13 else 26, [.ref 278, .int x1], [], gm M)) (b := true) rfl rfl ?_
      rw [if_pos h3]
      obtain ⟨hb1, hs⟩ := ck_some hs
      by_cases h2 : (M.1 279 (Int32.toNatClampNeg x1)) = 0
      · rw [if_pos h2] at hs
        refine Rc.goL mt_302 4 (f2 := (if (M.1 279 (Int32.toNatClampNeg x1)) = 0 then 26 else 22, [.ref 278, .int x1], [], gm M)) (b := (ib 12 x1 && true)) rfl hb1 ?_
        rw [if_pos h2]
        refine Rc.goL mt_302 0 (f2 := (27, [.ref 278, .int x1], [.int (0 : Int32)], gm M)) (b := true) rfl rfl ?_
        obtain ⟨e1, e2⟩ := some_p hs; subst e1; subst e2
        exact Rc.ret (v := some (.int (0 : Int32))) rfl rfl
      · rw [if_neg h2] at hs
        refine Rc.goL mt_302 4 (f2 := (if (M.1 279 (Int32.toNatClampNeg x1)) = 0 then 26 else 22, [.ref 278, .int x1], [], gm M)) (b := (ib 12 x1 && true)) rfl hb1 ?_
        rw [if_neg h2]
        refine Rc.goL mt_302 1 (f2 := (27, [.ref 278, .int x1], [.int (1 : Int32)], gm M)) (b := true) rfl rfl ?_
        obtain ⟨e1, e2⟩ := some_p hs; subst e1; subst e2
        exact Rc.ret (v := some (.int (1 : Int32))) rfl rfl
    · rw [if_neg h3] at hs
      refine Rc.goL mt_302 4 (f2 := (if x1 < (12 : Int32) then 13 else 26, [.ref 278, .int x1], [], gm M)) (b := true) rfl rfl ?_
      rw [if_neg h3]
      refine Rc.goL mt_302 0 (f2 := (27, [.ref 278, .int x1], [.int (0 : Int32)], gm M)) (b := true) rfl rfl ?_
      obtain ⟨e1, e2⟩ := some_p hs; subst e1; subst e2
      exact Rc.ret (v := some (.int (0 : Int32))) rfl rfl
def qfu_setStriker (x1 : Int32) (x2 : Int32) (M : SM) : Option (Unit × SM) :=
  if x1 < 0 then
  (some ((), M)) else
  (if x1 < (12 : Int32) then
    (ck (ib 12 x1 && true) (
      some ((), (wI M 279 (Int32.toNatClampNeg x1) (x2 &&& 1))))) else
    (some ((), M)))
theorem mt_303 : MT 303 K_303 LN_3 := ⟨rfl, rfl, by decide +kernel⟩
theorem okm_303 : OKm 303 := ⟨⟨vE_303, okL_3, by decide +kernel⟩, by decide +kernel, by decide +kernel, by decide +kernel⟩
set_option maxRecDepth 20000 in
theorem qfu_setStriker_ok (d : Nat) (hd : 1 ≤ d) {x1 : Int32} {x2 : Int32} {M : SM} {r : Unit} {Mz : SM} (hs : qfu_setStriker x1 x2 M = some (r, Mz)) : Ex d 303 [.ref 278, .int x1, .int x2] (gm M) (none, gm Mz) := by
  obtain ⟨d, rfl⟩ : ∃ d0, d = d0 + 1 := ⟨d - 1, by omega⟩
  refine Ex.of okm_303 (by omega) (Nat.le_of_ble_eq_true rfl) ?_
  show Rc (d + 1) 303 (0, [.ref 278, .int x1, .int x2], [], gm M) _
  unfold qfu_setStriker at hs
  by_cases h3 : x1 < 0
  · rw [if_pos h3] at hs
    refine Rc.goL mt_303 1 (f2 := (if x1 < 0 then 20 else 4, [.ref 278, .int x1, .int x2], [], gm M)) (b := true) rfl rfl ?_
    rw [if_pos h3]
    obtain ⟨e1, e2⟩ := some_p hs; subst e1; subst e2
    exact Rc.ret (v := none) rfl rfl
  · rw [if_neg h3] at hs
    refine Rc.goL mt_303 1 (f2 := (if x1 < 0 then 20 else 4, [.ref 278, .int x1, .int x2], [], gm M)) (b := true) rfl rfl ?_
    rw [if_neg h3]
    by_cases h2 : x1 < (12 : Int32)
    · rw [if_pos h2] at hs
      refine Rc.goL mt_303 4 (f2 := (if x1 < (12 : Int32) then 13 else 20, [.ref 278, .int x1, .int x2], [], gm M)) (b := true) rfl rfl ?_
      rw [if_pos h2]
      obtain ⟨hb1, hs⟩ := ck_some hs
      refine Rc.goL mt_303 4 (f2 := (20, [.ref 278, .int x1, .int x2], [], gm (wI M 279 (Int32.toNatClampNeg x1) (x2 &&& 1)))) (b := (ib 12 x1 && true)) rfl hb1 ?_
      obtain ⟨e1, e2⟩ := some_p hs; subst e1; subst e2
      exact Rc.ret (v := none) rfl rfl
    · rw [if_neg h2] at hs
      refine Rc.goL mt_303 4 (f2 := (if x1 < (12 : Int32) then 13 else 20, [.ref 278, .int x1, .int x2], [], gm M)) (b := true) rfl rfl ?_
      rw [if_neg h2]
      obtain ⟨e1, e2⟩ := some_p hs; subst e1; subst e2
      exact Rc.ret (v := none) rfl rfl
def qfu_strikers_L4 : Nat → Int32 → Int32 → SM → Option (Int32 × SM)
  | 0, _, _, _ => none
  | n + 1, x1, x2, M =>
    if x2 < (12 : Int32) then
    (ck (ib 12 x2 && true) (
      if (M.1 279 (Int32.toNatClampNeg x2)) = 0 then
      (qfu_strikers_L4 n x1 (x2 + (1 : Int32)) M) else
      (qfu_strikers_L4 n (x1 + (1 : Int32)) (x2 + (1 : Int32)) M))) else
    (some (x1, M))
def qfu_strikers (M : SM) : Option (Int32 × SM) :=
  qfu_strikers_L4 FU (0 : Int32) (0 : Int32) M
theorem mt_304 : MT 304 K_304 LN_3 := ⟨rfl, rfl, by decide +kernel⟩
theorem okm_304 : OKm 304 := ⟨⟨vE_304, okL_3, by decide +kernel⟩, by decide +kernel, by decide +kernel, by decide +kernel⟩
set_option maxRecDepth 20000 in
theorem qfu_strikers_L4_ok (d : Nat) (hd : 1 ≤ d + 1) : ∀ (n : Nat) (x1 : Int32) (x2 : Int32) (M : SM) (r : Int32) (Mz : SM), qfu_strikers_L4 n x1 x2 M = some (r, Mz) → Rc (d + 1) 304 (4, [.ref 278, .int x1, .int x2], [], gm M) (some (.int r), gm Mz) := by
  intro n
  induction n with
  | zero => intro x1 x2 M r Mz hs; cases hs
  | succ n ih =>
    intro x1 x2 M r Mz hs
    rw [qfu_strikers_L4] at hs
    by_cases h3 : x2 < (12 : Int32)
    · rw [if_pos h3] at hs
      refine Rc.goL mt_304 4 (f2 := (if x2 < (12 : Int32) then 13 else 31, [.ref 278, .int x1, .int x2], [], gm M)) (b := true) rfl rfl ?_
      rw [if_pos h3]
      obtain ⟨hb1, hs⟩ := ck_some hs
      by_cases h2 : (M.1 279 (Int32.toNatClampNeg x2)) = 0
      · rw [if_pos h2] at hs
        refine Rc.goL mt_304 4 (f2 := (if (M.1 279 (Int32.toNatClampNeg x2)) = 0 then 25 else 22, [.ref 278, .int x1, .int x2], [], gm M)) (b := (ib 12 x2 && true)) rfl hb1 ?_
        rw [if_pos h2]
        refine Rc.goL mt_304 1 (f2 := (4, [.ref 278, .int x1, .int (x2 + (1 : Int32))], [], gm M)) (b := true) rfl rfl ?_
        refine Rc.less (ls2 := [.ref 278, .int x1, .int (x2 + (1 : Int32))]) (by refine ⟨Or.inr rfl, Or.inr rfl, Or.inr rfl, trivial⟩) ?_
        exact ih x1 (x2 + (1 : Int32)) _ _ _ hs
      · rw [if_neg h2] at hs
        refine Rc.goL mt_304 4 (f2 := (if (M.1 279 (Int32.toNatClampNeg x2)) = 0 then 25 else 22, [.ref 278, .int x1, .int x2], [], gm M)) (b := (ib 12 x2 && true)) rfl hb1 ?_
        rw [if_neg h2]
        refine Rc.goL mt_304 0 (f2 := (25, [.ref 278, .int (x1 + (1 : Int32)), .int x2], [], gm M)) (b := true) rfl rfl ?_
        refine Rc.goL mt_304 1 (f2 := (4, [.ref 278, .int (x1 + (1 : Int32)), .int (x2 + (1 : Int32))], [], gm M)) (b := true) rfl rfl ?_
        refine Rc.less (ls2 := [.ref 278, .int (x1 + (1 : Int32)), .int (x2 + (1 : Int32))]) (by refine ⟨Or.inr rfl, Or.inr rfl, Or.inr rfl, trivial⟩) ?_
        exact ih (x1 + (1 : Int32)) (x2 + (1 : Int32)) _ _ _ hs
    · rw [if_neg h3] at hs
      refine Rc.goL mt_304 4 (f2 := (if x2 < (12 : Int32) then 13 else 31, [.ref 278, .int x1, .int x2], [], gm M)) (b := true) rfl rfl ?_
      rw [if_neg h3]
      refine Rc.goL mt_304 0 (f2 := (32, [.ref 278, .int x1, .int x2], [.int x1], gm M)) (b := true) rfl rfl ?_
      obtain ⟨e1, e2⟩ := some_p hs; subst e1; subst e2
      exact Rc.ret (v := some (.int x1)) rfl rfl
set_option maxRecDepth 20000 in
theorem qfu_strikers_ok (d : Nat) (hd : 1 ≤ d) {M : SM} {r : Int32} {Mz : SM} (hs : qfu_strikers M = some (r, Mz)) : Ex d 304 [.ref 278] (gm M) (some (.int r), gm Mz) := by
  obtain ⟨d, rfl⟩ : ∃ d0, d = d0 + 1 := ⟨d - 1, by omega⟩
  refine Ex.of okm_304 (by omega) (Nat.le_of_ble_eq_true rfl) ?_
  show Rc (d + 1) 304 (0, [.ref 278, UU, UU], [], gm M) _
  unfold qfu_strikers at hs
  refine Rc.goL mt_304 3 (f2 := (4, [.ref 278, .int (0 : Int32), .int (0 : Int32)], [], gm M)) (b := true) rfl rfl ?_
  refine Rc.less (ls2 := [.ref 278, .int (0 : Int32), .int (0 : Int32)]) (by refine ⟨Or.inr rfl, Or.inr rfl, Or.inr rfl, trivial⟩) ?_
  exact qfu_strikers_L4_ok d hd _ (0 : Int32) (0 : Int32) _ _ _ hs
def qtn_hasKnitter (x1 : Int32) (M : SM) : Option (Int32 × SM) :=
  if x1 < 0 then
  (some ((0 : Int32), M)) else
  (if x1 < (M.1 179 2) then
    (if x1 < (12 : Int32) then
      (some ((1 : Int32), M)) else
      (some ((0 : Int32), M))) else
    (some ((0 : Int32), M)))
theorem mt_1003 : MT 1003 K_1003 LN_10 := ⟨rfl, rfl, by decide +kernel⟩
theorem okm_1003 : OKm 1003 := ⟨⟨vE_1003, okL_10, by decide +kernel⟩, by decide +kernel, by decide +kernel, by decide +kernel⟩
set_option maxRecDepth 20000 in
theorem qtn_hasKnitter_ok (d : Nat) (hd : 1 ≤ d) {x1 : Int32} {M : SM} {r : Int32} {Mz : SM} (hs : qtn_hasKnitter x1 M = some (r, Mz)) : Ex d 1003 [.ref 179, .int x1] (gm M) (some (.int r), gm Mz) := by
  obtain ⟨d, rfl⟩ : ∃ d0, d = d0 + 1 := ⟨d - 1, by omega⟩
  refine Ex.of okm_1003 (by omega) (Nat.le_of_ble_eq_true rfl) ?_
  show Rc (d + 1) 1003 (0, [.ref 179, .int x1], [], gm M) _
  unfold qtn_hasKnitter at hs
  by_cases h3 : x1 < 0
  · rw [if_pos h3] at hs
    refine Rc.goL mt_1003 1 (f2 := (if x1 < 0 then 22 else 4, [.ref 179, .int x1], [], gm M)) (b := true) rfl rfl ?_
    rw [if_pos h3]
    refine Rc.goL mt_1003 0 (f2 := (23, [.ref 179, .int x1], [.int (0 : Int32)], gm M)) (b := true) rfl rfl ?_
    obtain ⟨e1, e2⟩ := some_p hs; subst e1; subst e2
    exact Rc.ret (v := some (.int (0 : Int32))) rfl rfl
  · rw [if_neg h3] at hs
    refine Rc.goL mt_1003 1 (f2 := (if x1 < 0 then 22 else 4, [.ref 179, .int x1], [], gm M)) (b := true) rfl rfl ?_
    rw [if_neg h3]
    by_cases h2 : x1 < (M.1 179 2)
    · rw [if_pos h2] at hs
      refine Rc.goL mt_1003 3 (f2 := (if x1 < (M.1 179 2) then 12 else 22, [.ref 179, .int x1], [], gm M)) (b := true) rfl rfl ?_
      rw [if_pos h2]
      by_cases h1 : x1 < (12 : Int32)
      · rw [if_pos h1] at hs
        refine Rc.goL mt_1003 2 (f2 := (if x1 < (12 : Int32) then 18 else 22, [.ref 179, .int x1], [], gm M)) (b := true) rfl rfl ?_
        rw [if_pos h1]
        refine Rc.goL mt_1003 1 (f2 := (23, [.ref 179, .int x1], [.int (1 : Int32)], gm M)) (b := true) rfl rfl ?_
        obtain ⟨e1, e2⟩ := some_p hs; subst e1; subst e2
        exact Rc.ret (v := some (.int (1 : Int32))) rfl rfl
      · rw [if_neg h1] at hs
        refine Rc.goL mt_1003 2 (f2 := (if x1 < (12 : Int32) then 18 else 22, [.ref 179, .int x1], [], gm M)) (b := true) rfl rfl ?_
        rw [if_neg h1]
        refine Rc.goL mt_1003 0 (f2 := (23, [.ref 179, .int x1], [.int (0 : Int32)], gm M)) (b := true) rfl rfl ?_
        obtain ⟨e1, e2⟩ := some_p hs; subst e1; subst e2
        exact Rc.ret (v := some (.int (0 : Int32))) rfl rfl
    · rw [if_neg h2] at hs
      refine Rc.goL mt_1003 3 (f2 := (if x1 < (M.1 179 2) then 12 else 22, [.ref 179, .int x1], [], gm M)) (b := true) rfl rfl ?_
      rw [if_neg h2]
      refine Rc.goL mt_1003 0 (f2 := (23, [.ref 179, .int x1], [.int (0 : Int32)], gm M)) (b := true) rfl rfl ?_
      obtain ⟨e1, e2⟩ := some_p hs; subst e1; subst e2
      exact Rc.ret (v := some (.int (0 : Int32))) rfl rfl
def qtn_headsOf (x1 : Int32) (M : SM) : Option (Int32 × SM) :=
  ob (qtn_hasKnitter x1 M) (fun r1 M2 =>
  if r1 = 0 then
  (some ((0 : Int32), M2)) else
  (ck (ib 12 x1 && true) (
    some ((M2.1 182 (Int32.toNatClampNeg x1)), M2))))
theorem mt_1019 : MT 1019 K_1019 LN_10 := ⟨rfl, rfl, by decide +kernel⟩
theorem okm_1019 : OKm 1019 := ⟨⟨vE_1019, okL_10, by decide +kernel⟩, by decide +kernel, by decide +kernel, by decide +kernel⟩
set_option maxRecDepth 20000 in
theorem qtn_headsOf_ok (d : Nat) (hd : 2 ≤ d) {x1 : Int32} {M : SM} {r : Int32} {Mz : SM} (hs : qtn_headsOf x1 M = some (r, Mz)) : Ex d 1019 [.ref 179, .int x1] (gm M) (some (.int r), gm Mz) := by
  obtain ⟨d, rfl⟩ : ∃ d0, d = d0 + 1 := ⟨d - 1, by omega⟩
  refine Ex.of okm_1019 (by omega) (Nat.le_of_ble_eq_true rfl) ?_
  show Rc (d + 1) 1019 (0, [.ref 179, .int x1], [], gm M) _
  unfold qtn_headsOf at hs
  refine Rc.goL mt_1019 1 (f2 := (2, [.ref 179, .int x1], [.int x1, .ref 179], gm M)) (b := true) rfl rfl ?_
  obtain ⟨r1, M2, he3, hs⟩ := ob_some hs
  refine Rc.callV (i := 69) (mid' := 1003) (av := [.int x1]) (rest := []) (v := some (.int r1)) (M1 := gm M2) (a := 179) rfl rfl rfl cw_1003 rfl (Nat.le_of_ble_eq_true rfl) rfl (Nat.le_of_ble_eq_true rfl) (qtn_hasKnitter_ok _ (by omega) he3) ?_
  by_cases h5 : r1 = 0
  · rw [if_pos h5] at hs
    refine Rc.goL mt_1019 0 (f2 := (if r1 = 0 then 17 else 8, [.ref 179, .int x1], [], gm M2)) (b := true) rfl rfl ?_
    rw [if_pos h5]
    refine Rc.goL mt_1019 0 (f2 := (18, [.ref 179, .int x1], [.int (0 : Int32)], gm M2)) (b := true) rfl rfl ?_
    obtain ⟨e1, e2⟩ := some_p hs; subst e1; subst e2
    exact Rc.ret (v := some (.int (0 : Int32))) rfl rfl
  · rw [if_neg h5] at hs
    refine Rc.goL mt_1019 0 (f2 := (if r1 = 0 then 17 else 8, [.ref 179, .int x1], [], gm M2)) (b := true) rfl rfl ?_
    rw [if_neg h5]
    obtain ⟨hb4, hs⟩ := ck_some hs
    refine Rc.goL mt_1019 4 (f2 := (18, [.ref 179, .int x1], [.int (M2.1 182 (Int32.toNatClampNeg x1))], gm M2)) (b := (ib 12 x1 && true)) rfl hb4 ?_
    obtain ⟨e1, e2⟩ := some_p hs; subst e1; subst e2
    exact Rc.ret (v := some (.int (M2.1 182 (Int32.toNatClampNeg x1)))) rfl rfl
def qfu_dueTo (x1 : Int32) (M : SM) : Option (Int32 × SM) :=
  ob (qfu_isStriker x1 M) (fun r1 M2 =>
  if r1 = 0 then
  (some ((0 : Int32), M2)) else
  (ob (qtn_headsOf x1 M2) (fun r4 M5 =>
    some (((M2.1 278 1) * r4), M5))))
theorem mt_305 : MT 305 K_305 LN_3 := ⟨rfl, rfl, by decide +kernel⟩
theorem okm_305 : OKm 305 := ⟨⟨vE_305, okL_3, by decide +kernel⟩, by decide +kernel, by decide +kernel, by decide +kernel⟩
set_option maxRecDepth 20000 in
theorem qfu_dueTo_ok (d : Nat) (hd : 3 ≤ d) {x1 : Int32} {M : SM} {r : Int32} {Mz : SM} (hs : qfu_dueTo x1 M = some (r, Mz)) : Ex d 305 [.ref 278, .int x1, .ref 179] (gm M) (some (.int r), gm Mz) := by
  obtain ⟨d, rfl⟩ : ∃ d0, d = d0 + 1 := ⟨d - 1, by omega⟩
  refine Ex.of okm_305 (by omega) (Nat.le_of_ble_eq_true rfl) ?_
  show Rc (d + 1) 305 (0, [.ref 278, .int x1, .ref 179], [], gm M) _
  unfold qfu_dueTo at hs
  refine Rc.goL mt_305 1 (f2 := (2, [.ref 278, .int x1, .ref 179], [.int x1, .ref 278], gm M)) (b := true) rfl rfl ?_
  obtain ⟨r1, M2, he3, hs⟩ := ob_some hs
  refine Rc.callV (i := 22) (mid' := 302) (av := [.int x1]) (rest := []) (v := some (.int r1)) (M1 := gm M2) (a := 278) rfl rfl rfl cw_302 rfl (Nat.le_of_ble_eq_true rfl) rfl (Nat.le_of_ble_eq_true rfl) (qfu_isStriker_ok _ (by omega) he3) ?_
  by_cases h7 : r1 = 0
  · rw [if_pos h7] at hs
    refine Rc.goL mt_305 0 (f2 := (if r1 = 0 then 21 else 8, [.ref 278, .int x1, .ref 179], [], gm M2)) (b := true) rfl rfl ?_
    rw [if_pos h7]
    refine Rc.goL mt_305 0 (f2 := (22, [.ref 278, .int x1, .ref 179], [.int (0 : Int32)], gm M2)) (b := true) rfl rfl ?_
    obtain ⟨e1, e2⟩ := some_p hs; subst e1; subst e2
    exact Rc.ret (v := some (.int (0 : Int32))) rfl rfl
  · rw [if_neg h7] at hs
    refine Rc.goL mt_305 0 (f2 := (if r1 = 0 then 21 else 8, [.ref 278, .int x1, .ref 179], [], gm M2)) (b := true) rfl rfl ?_
    rw [if_neg h7]
    refine Rc.goL mt_305 3 (f2 := (14, [.ref 278, .int x1, .ref 179], [.int x1, .ref 179, .int (M2.1 278 1)], gm M2)) (b := true) rfl rfl ?_
    obtain ⟨r4, M5, he6, hs⟩ := ob_some hs
    refine Rc.callV (i := 29) (mid' := 1019) (av := [.int x1]) (rest := [.int (M2.1 278 1)]) (v := some (.int r4)) (M1 := gm M5) (a := 179) rfl rfl rfl cw_1019 rfl (Nat.le_of_ble_eq_true rfl) rfl (Nat.le_of_ble_eq_true rfl) (qtn_headsOf_ok _ (by omega) he6) ?_
    refine Rc.goL mt_305 1 (f2 := (22, [.ref 278, .int x1, .ref 179], [.int ((M2.1 278 1) * r4)], gm M5)) (b := true) rfl rfl ?_
    obtain ⟨e1, e2⟩ := some_p hs; subst e1; subst e2
    exact Rc.ret (v := some (.int ((M2.1 278 1) * r4))) rfl rfl
def qfu_wholeWeeks_L4 (k28 : Int32 → SM → Option (Int32 × SM)) : Nat → Int32 → Int32 → SM → Option (Int32 × SM)
  | 0, _, _, _ => none
  | n + 1, x2, x3, M =>
    if x3 < (12 : Int32) then
    (ob (qfu_dueTo x3 M) (fun r1 M2 =>
      qfu_wholeWeeks_L4 k28 n (x2 + r1) (x3 + (1 : Int32)) M2)) else
    (k28 x2 M)
def qfu_wholeWeeks (M : SM) : Option (Int32 × SM) :=
  qfu_wholeWeeks_L4 (fun y2_5 M6 =>
  if 0 < y2_5 then
    (ck (decide (¬ y2_5 = 0) && true) (
      some (((M6.1 278 0) / y2_5), M6))) else
    (some ((-1 : Int32), M6))) FU (0 : Int32) (0 : Int32) M
theorem mt_306 : MT 306 K_306 LN_3 := ⟨rfl, rfl, by decide +kernel⟩
theorem okm_306 : OKm 306 := ⟨⟨vE_306, okL_3, by decide +kernel⟩, by decide +kernel, by decide +kernel, by decide +kernel⟩
set_option maxRecDepth 20000 in
theorem qfu_wholeWeeks_L4_ok (d : Nat) (hd : 4 ≤ d + 1) (k28 : Int32 → SM → Option (Int32 × SM)) (hk28 : ∀ (y2 : Int32) (M : SM) (r : Int32) (Mz : SM), k28 y2 M = some (r, Mz) → Rc (d + 1) 306 (28, [.ref 278, UU, .int y2, UU], [], gm M) (some (.int r), gm Mz)) : ∀ (n : Nat) (x2 : Int32) (x3 : Int32) (M : SM) (r : Int32) (Mz : SM), qfu_wholeWeeks_L4 k28 n x2 x3 M = some (r, Mz) → Rc (d + 1) 306 (4, [.ref 278, .ref 179, .int x2, .int x3], [], gm M) (some (.int r), gm Mz) := by
  intro n
  induction n with
  | zero => intro x2 x3 M r Mz hs; cases hs
  | succ n ih =>
    intro x2 x3 M r Mz hs
    rw [qfu_wholeWeeks_L4] at hs
    by_cases h4 : x3 < (12 : Int32)
    · rw [if_pos h4] at hs
      refine Rc.goL mt_306 4 (f2 := (if x3 < (12 : Int32) then 13 else 28, [.ref 278, .ref 179, .int x2, .int x3], [], gm M)) (b := true) rfl rfl ?_
      rw [if_pos h4]
      refine Rc.goL mt_306 3 (f2 := (17, [.ref 278, .ref 179, .int x2, .int x3], [.ref 179, .int x3, .ref 278, .int x2], gm M)) (b := true) rfl rfl ?_
      obtain ⟨r1, M2, he3, hs⟩ := ob_some hs
      refine Rc.callV (i := 33) (mid' := 305) (av := [.int x3, .ref 179]) (rest := [.int x2]) (v := some (.int r1)) (M1 := gm M2) (a := 278) rfl rfl rfl cw_305 rfl (Nat.le_of_ble_eq_true rfl) rfl (Nat.le_of_ble_eq_true rfl) (qfu_dueTo_ok _ (by omega) he3) ?_
      refine Rc.goL mt_306 3 (f2 := (4, [.ref 278, .ref 179, .int (x2 + r1), .int (x3 + (1 : Int32))], [], gm M2)) (b := true) rfl rfl ?_
      refine Rc.less (ls2 := [.ref 278, .ref 179, .int (x2 + r1), .int (x3 + (1 : Int32))]) (by refine ⟨Or.inr rfl, Or.inr rfl, Or.inr rfl, Or.inr rfl, trivial⟩) ?_
      exact ih (x2 + r1) (x3 + (1 : Int32)) _ _ _ hs
    · rw [if_neg h4] at hs
      refine Rc.goL mt_306 4 (f2 := (if x3 < (12 : Int32) then 13 else 28, [.ref 278, .ref 179, .int x2, .int x3], [], gm M)) (b := true) rfl rfl ?_
      rw [if_neg h4]
      refine Rc.less (ls2 := [.ref 278, UU, .int x2, UU]) (by refine ⟨Or.inr rfl, Or.inl rfl, Or.inr rfl, Or.inl rfl, trivial⟩) ?_
      exact hk28 x2 _ _ _ hs
set_option maxRecDepth 20000 in
theorem qfu_wholeWeeks_ok (d : Nat) (hd : 4 ≤ d) {M : SM} {r : Int32} {Mz : SM} (hs : qfu_wholeWeeks M = some (r, Mz)) : Ex d 306 [.ref 278, .ref 179] (gm M) (some (.int r), gm Mz) := by
  obtain ⟨d, rfl⟩ : ∃ d0, d = d0 + 1 := ⟨d - 1, by omega⟩
  refine Ex.of okm_306 (by omega) (Nat.le_of_ble_eq_true rfl) ?_
  show Rc (d + 1) 306 (0, [.ref 278, .ref 179, UU, UU], [], gm M) _
  unfold qfu_wholeWeeks at hs
  refine Rc.goL mt_306 3 (f2 := (4, [.ref 278, .ref 179, .int (0 : Int32), .int (0 : Int32)], [], gm M)) (b := true) rfl rfl ?_
  refine Rc.less (ls2 := [.ref 278, .ref 179, .int (0 : Int32), .int (0 : Int32)]) (by refine ⟨Or.inr rfl, Or.inr rfl, Or.inr rfl, Or.inr rfl, trivial⟩) ?_
  refine qfu_wholeWeeks_L4_ok d hd _ (fun y2_5 M6 r Mz hs => ?_) _ (0 : Int32) (0 : Int32) _ _ _ hs
  · by_cases h8 : 0 < y2_5
    · rw [if_pos h8] at hs
      refine Rc.goL mt_306 1 (f2 := (if 0 < y2_5 then 36 else 32, [.ref 278, UU, .int y2_5, UU], [], gm M6)) (b := true) rfl rfl ?_
      rw [if_pos h8]
      obtain ⟨hb7, hs⟩ := ck_some hs
      refine Rc.goL mt_306 3 (f2 := (42, [.ref 278, UU, .int y2_5, UU], [.int ((M6.1 278 0) / y2_5)], gm M6)) (b := (decide (¬ y2_5 = 0) && true)) rfl hb7 ?_
      obtain ⟨e1, e2⟩ := some_p hs; subst e1; subst e2
      exact Rc.ret (v := some (.int ((M6.1 278 0) / y2_5))) rfl rfl
    · rw [if_neg h8] at hs
      refine Rc.goL mt_306 1 (f2 := (if 0 < y2_5 then 36 else 32, [.ref 278, UU, .int y2_5, UU], [], gm M6)) (b := true) rfl rfl ?_
      rw [if_neg h8]
      refine Rc.goL mt_306 1 (f2 := (42, [.ref 278, UU, .int y2_5, UU], [.int (-1 : Int32)], gm M6)) (b := true) rfl rfl ?_
      obtain ⟨e1, e2⟩ := some_p hs; subst e1; subst e2
      exact Rc.ret (v := some (.int (-1 : Int32))) rfl rfl
def qfu_payWeek_L4 : Nat → Int32 → Int32 → SM → Option (Int32 × SM)
  | 0, _, _, _ => none
  | n + 1, x2, x3, M =>
    if x3 < (12 : Int32) then
    (ob (qfu_dueTo x3 M) (fun r1 M2 =>
      if (M2.1 278 0) < r1 then
      (qfu_payWeek_L4 n x2 (x3 + (1 : Int32)) M2) else
      (qfu_payWeek_L4 n (x2 + r1) (x3 + (1 : Int32)) (wI M2 278 0 ((M2.1 278 0) - r1))))) else
    (some (x2, M))
def qfu_payWeek (M : SM) : Option (Int32 × SM) :=
  qfu_payWeek_L4 FU (0 : Int32) (0 : Int32) M
theorem mt_307 : MT 307 K_307 LN_3 := ⟨rfl, rfl, by decide +kernel⟩
theorem okm_307 : OKm 307 := ⟨⟨vE_307, okL_3, by decide +kernel⟩, by decide +kernel, by decide +kernel, by decide +kernel⟩
set_option maxRecDepth 20000 in
theorem qfu_payWeek_L4_ok (d : Nat) (hd : 4 ≤ d + 1) : ∀ (n : Nat) (x2 : Int32) (x3 : Int32) (M : SM) (r : Int32) (Mz : SM), qfu_payWeek_L4 n x2 x3 M = some (r, Mz) → Rc (d + 1) 307 (4, [.ref 278, .ref 179, .int x2, .int x3, UU], [], gm M) (some (.int r), gm Mz) := by
  intro n
  induction n with
  | zero => intro x2 x3 M r Mz hs; cases hs
  | succ n ih =>
    intro x2 x3 M r Mz hs
    rw [qfu_payWeek_L4] at hs
    by_cases h5 : x3 < (12 : Int32)
    · rw [if_pos h5] at hs
      refine Rc.goL mt_307 4 (f2 := (if x3 < (12 : Int32) then 13 else 55, [.ref 278, .ref 179, .int x2, .int x3, UU], [], gm M)) (b := true) rfl rfl ?_
      rw [if_pos h5]
      refine Rc.goL mt_307 2 (f2 := (16, [.ref 278, .ref 179, .int x2, .int x3, UU], [.ref 179, .int x3, .ref 278], gm M)) (b := true) rfl rfl ?_
      obtain ⟨r1, M2, he3, hs⟩ := ob_some hs
      refine Rc.callV (i := 33) (mid' := 305) (av := [.int x3, .ref 179]) (rest := []) (v := some (.int r1)) (M1 := gm M2) (a := 278) rfl rfl rfl cw_305 rfl (Nat.le_of_ble_eq_true rfl) rfl (Nat.le_of_ble_eq_true rfl) (qfu_dueTo_ok _ (by omega) he3) ?_
      by_cases h4 : (M2.1 278 0) < r1
      · rw [if_pos h4] at hs
        refine Rc.goL mt_307 4 (f2 := (if (M2.1 278 0) < r1 then 30 else 33, [.ref 278, .ref 179, .int x2, .int x3, .int r1], [], gm M2)) (b := true) rfl rfl ?_
        rw [if_pos h4]
        refine Rc.goL mt_307 0 (f2 := (49, [.ref 278, .ref 179, .int x2, .int x3, .int r1], [], gm M2)) (b := true) rfl rfl ?_
        refine Rc.goL mt_307 1 (f2 := (4, [.ref 278, .ref 179, .int x2, .int (x3 + (1 : Int32)), .int r1], [], gm M2)) (b := true) rfl rfl ?_
        refine Rc.less (ls2 := [.ref 278, .ref 179, .int x2, .int (x3 + (1 : Int32)), UU]) (by refine ⟨Or.inr rfl, Or.inr rfl, Or.inr rfl, Or.inr rfl, Or.inl rfl, trivial⟩) ?_
        exact ih x2 (x3 + (1 : Int32)) _ _ _ hs
      · rw [if_neg h4] at hs
        refine Rc.goL mt_307 4 (f2 := (if (M2.1 278 0) < r1 then 30 else 33, [.ref 278, .ref 179, .int x2, .int x3, .int r1], [], gm M2)) (b := true) rfl rfl ?_
        rw [if_neg h4]
        refine Rc.goL mt_307 5 (f2 := (44, [.ref 278, .ref 179, .int x2, .int x3, .int r1], [], gm (wI M2 278 0 ((M2.1 278 0) - r1)))) (b := true) rfl rfl ?_
        refine Rc.goL mt_307 3 (f2 := (49, [.ref 278, .ref 179, .int (x2 + r1), .int x3, .int r1], [], gm (wI M2 278 0 ((M2.1 278 0) - r1)))) (b := true) rfl rfl ?_
        refine Rc.goL mt_307 1 (f2 := (4, [.ref 278, .ref 179, .int (x2 + r1), .int (x3 + (1 : Int32)), .int r1], [], gm (wI M2 278 0 ((M2.1 278 0) - r1)))) (b := true) rfl rfl ?_
        refine Rc.less (ls2 := [.ref 278, .ref 179, .int (x2 + r1), .int (x3 + (1 : Int32)), UU]) (by refine ⟨Or.inr rfl, Or.inr rfl, Or.inr rfl, Or.inr rfl, Or.inl rfl, trivial⟩) ?_
        exact ih (x2 + r1) (x3 + (1 : Int32)) _ _ _ hs
    · rw [if_neg h5] at hs
      refine Rc.goL mt_307 4 (f2 := (if x3 < (12 : Int32) then 13 else 55, [.ref 278, .ref 179, .int x2, .int x3, UU], [], gm M)) (b := true) rfl rfl ?_
      rw [if_neg h5]
      refine Rc.goL mt_307 0 (f2 := (56, [.ref 278, .ref 179, .int x2, .int x3, UU], [.int x2], gm M)) (b := true) rfl rfl ?_
      obtain ⟨e1, e2⟩ := some_p hs; subst e1; subst e2
      exact Rc.ret (v := some (.int x2)) rfl rfl
set_option maxRecDepth 20000 in
theorem qfu_payWeek_ok (d : Nat) (hd : 4 ≤ d) {M : SM} {r : Int32} {Mz : SM} (hs : qfu_payWeek M = some (r, Mz)) : Ex d 307 [.ref 278, .ref 179] (gm M) (some (.int r), gm Mz) := by
  obtain ⟨d, rfl⟩ : ∃ d0, d = d0 + 1 := ⟨d - 1, by omega⟩
  refine Ex.of okm_307 (by omega) (Nat.le_of_ble_eq_true rfl) ?_
  show Rc (d + 1) 307 (0, [.ref 278, .ref 179, UU, UU, UU], [], gm M) _
  unfold qfu_payWeek at hs
  refine Rc.goL mt_307 3 (f2 := (4, [.ref 278, .ref 179, .int (0 : Int32), .int (0 : Int32), UU], [], gm M)) (b := true) rfl rfl ?_
  refine Rc.less (ls2 := [.ref 278, .ref 179, .int (0 : Int32), .int (0 : Int32), UU]) (by refine ⟨Or.inr rfl, Or.inr rfl, Or.inr rfl, Or.inr rfl, Or.inl rfl, trivial⟩) ?_
  exact qfu_payWeek_L4_ok d hd _ (0 : Int32) (0 : Int32) _ _ _ hs
def qlo_has (x1 : Int32) (M : SM) : Option (Int32 × SM) :=
  if x1 < 0 then
  (some ((0 : Int32), M)) else
  (if x1 < (M.1 270 0) then
    (if x1 < (40 : Int32) then
      (some ((1 : Int32), M)) else
      (some ((0 : Int32), M))) else
    (some ((0 : Int32), M)))
theorem mt_401 : MT 401 K_401 LN_4 := ⟨rfl, rfl, by decide +kernel⟩
theorem okm_401 : OKm 401 := ⟨⟨vE_401, okL_4, by decide +kernel⟩, by decide +kernel, by decide +kernel, by decide +kernel⟩
set_option maxRecDepth 20000 in
theorem qlo_has_ok (d : Nat) (hd : 1 ≤ d) {x1 : Int32} {M : SM} {r : Int32} {Mz : SM} (hs : qlo_has x1 M = some (r, Mz)) : Ex d 401 [.ref 270, .int x1] (gm M) (some (.int r), gm Mz) := by
  obtain ⟨d, rfl⟩ : ∃ d0, d = d0 + 1 := ⟨d - 1, by omega⟩
  refine Ex.of okm_401 (by omega) (Nat.le_of_ble_eq_true rfl) ?_
  show Rc (d + 1) 401 (0, [.ref 270, .int x1], [], gm M) _
  unfold qlo_has at hs
  by_cases h3 : x1 < 0
  · rw [if_pos h3] at hs
    refine Rc.goL mt_401 1 (f2 := (if x1 < 0 then 22 else 4, [.ref 270, .int x1], [], gm M)) (b := true) rfl rfl ?_
    rw [if_pos h3]
    refine Rc.goL mt_401 0 (f2 := (23, [.ref 270, .int x1], [.int (0 : Int32)], gm M)) (b := true) rfl rfl ?_
    obtain ⟨e1, e2⟩ := some_p hs; subst e1; subst e2
    exact Rc.ret (v := some (.int (0 : Int32))) rfl rfl
  · rw [if_neg h3] at hs
    refine Rc.goL mt_401 1 (f2 := (if x1 < 0 then 22 else 4, [.ref 270, .int x1], [], gm M)) (b := true) rfl rfl ?_
    rw [if_neg h3]
    by_cases h2 : x1 < (M.1 270 0)
    · rw [if_pos h2] at hs
      refine Rc.goL mt_401 3 (f2 := (if x1 < (M.1 270 0) then 12 else 22, [.ref 270, .int x1], [], gm M)) (b := true) rfl rfl ?_
      rw [if_pos h2]
      by_cases h1 : x1 < (40 : Int32)
      · rw [if_pos h1] at hs
        refine Rc.goL mt_401 2 (f2 := (if x1 < (40 : Int32) then 18 else 22, [.ref 270, .int x1], [], gm M)) (b := true) rfl rfl ?_
        rw [if_pos h1]
        refine Rc.goL mt_401 1 (f2 := (23, [.ref 270, .int x1], [.int (1 : Int32)], gm M)) (b := true) rfl rfl ?_
        obtain ⟨e1, e2⟩ := some_p hs; subst e1; subst e2
        exact Rc.ret (v := some (.int (1 : Int32))) rfl rfl
      · rw [if_neg h1] at hs
        refine Rc.goL mt_401 2 (f2 := (if x1 < (40 : Int32) then 18 else 22, [.ref 270, .int x1], [], gm M)) (b := true) rfl rfl ?_
        rw [if_neg h1]
        refine Rc.goL mt_401 0 (f2 := (23, [.ref 270, .int x1], [.int (0 : Int32)], gm M)) (b := true) rfl rfl ?_
        obtain ⟨e1, e2⟩ := some_p hs; subst e1; subst e2
        exact Rc.ret (v := some (.int (0 : Int32))) rfl rfl
    · rw [if_neg h2] at hs
      refine Rc.goL mt_401 3 (f2 := (if x1 < (M.1 270 0) then 12 else 22, [.ref 270, .int x1], [], gm M)) (b := true) rfl rfl ?_
      rw [if_neg h2]
      refine Rc.goL mt_401 0 (f2 := (23, [.ref 270, .int x1], [.int (0 : Int32)], gm M)) (b := true) rfl rfl ?_
      obtain ⟨e1, e2⟩ := some_p hs; subst e1; subst e2
      exact Rc.ret (v := some (.int (0 : Int32))) rfl rfl
def qlo_add (x1 : Int32) (M : SM) : Option (Int32 × SM) :=
  if (M.1 270 0) < 0 then
  (some ((-1 : Int32), M)) else
  (if (M.1 270 0) < (40 : Int32) then
    (ck (ib 40 (M.1 270 0) && true) (
      some ((((M.1 270 0) + (1 : Int32)) - (1 : Int32)), (wI (wI M 271 (Int32.toNatClampNeg (M.1 270 0)) x1) 270 0 ((M.1 270 0) + (1 : Int32)))))) else
    (some ((-1 : Int32), M)))
theorem mt_402 : MT 402 K_402 LN_4 := ⟨rfl, rfl, by decide +kernel⟩
theorem okm_402 : OKm 402 := ⟨⟨vE_402, okL_4, by decide +kernel⟩, by decide +kernel, by decide +kernel, by decide +kernel⟩
set_option maxRecDepth 20000 in
theorem qlo_add_ok (d : Nat) (hd : 1 ≤ d) {x1 : Int32} {M : SM} {r : Int32} {Mz : SM} (hs : qlo_add x1 M = some (r, Mz)) : Ex d 402 [.ref 270, .int x1] (gm M) (some (.int r), gm Mz) := by
  obtain ⟨d, rfl⟩ : ∃ d0, d = d0 + 1 := ⟨d - 1, by omega⟩
  refine Ex.of okm_402 (by omega) (Nat.le_of_ble_eq_true rfl) ?_
  show Rc (d + 1) 402 (0, [.ref 270, .int x1], [], gm M) _
  unfold qlo_add at hs
  by_cases h3 : (M.1 270 0) < 0
  · rw [if_pos h3] at hs
    refine Rc.goL mt_402 2 (f2 := (if (M.1 270 0) < 0 then 16 else 7, [.ref 270, .int x1], [], gm M)) (b := true) rfl rfl ?_
    rw [if_pos h3]
    refine Rc.goL mt_402 0 (f2 := (17, [.ref 270, .int x1], [.int (-1 : Int32)], gm M)) (b := true) rfl rfl ?_
    obtain ⟨e1, e2⟩ := some_p hs; subst e1; subst e2
    exact Rc.ret (v := some (.int (-1 : Int32))) rfl rfl
  · rw [if_neg h3] at hs
    refine Rc.goL mt_402 2 (f2 := (if (M.1 270 0) < 0 then 16 else 7, [.ref 270, .int x1], [], gm M)) (b := true) rfl rfl ?_
    rw [if_neg h3]
    by_cases h2 : (M.1 270 0) < (40 : Int32)
    · rw [if_pos h2] at hs
      refine Rc.goL mt_402 3 (f2 := (if (M.1 270 0) < (40 : Int32) then 18 else 16, [.ref 270, .int x1], [], gm M)) (b := true) rfl rfl ?_
      rw [if_pos h2]
      obtain ⟨hb1, hs⟩ := ck_some hs
      obtain ⟨hb1_0, hb1⟩ := and_t hb1
      refine Rc.goL mt_402 5 (f2 := (28, [.ref 270, .int x1], [], gm (wI M 271 (Int32.toNatClampNeg (M.1 270 0)) x1))) (b := (ib 40 (M.1 270 0) && true)) rfl (and_i hb1_0 rfl) ?_
      refine Rc.goL mt_402 5 (f2 := (38, [.ref 270, .int x1], [], gm (wI (wI M 271 (Int32.toNatClampNeg (M.1 270 0)) x1) 270 0 ((M.1 270 0) + (1 : Int32))))) (b := true) rfl rfl ?_
      refine Rc.goL mt_402 3 (f2 := (44, [.ref 270, .int x1], [.int (((M.1 270 0) + (1 : Int32)) - (1 : Int32))], gm (wI (wI M 271 (Int32.toNatClampNeg (M.1 270 0)) x1) 270 0 ((M.1 270 0) + (1 : Int32))))) (b := true) rfl rfl ?_
      obtain ⟨e1, e2⟩ := some_p hs; subst e1; subst e2
      exact Rc.ret (v := some (.int (((M.1 270 0) + (1 : Int32)) - (1 : Int32)))) rfl rfl
    · rw [if_neg h2] at hs
      refine Rc.goL mt_402 3 (f2 := (if (M.1 270 0) < (40 : Int32) then 18 else 16, [.ref 270, .int x1], [], gm M)) (b := true) rfl rfl ?_
      rw [if_neg h2]
      refine Rc.goL mt_402 0 (f2 := (17, [.ref 270, .int x1], [.int (-1 : Int32)], gm M)) (b := true) rfl rfl ?_
      obtain ⟨e1, e2⟩ := some_p hs; subst e1; subst e2
      exact Rc.ret (v := some (.int (-1 : Int32))) rfl rfl
def qlo_setKind (x1 : Int32) (x2 : Int32) (M : SM) : Option (Unit × SM) :=
  ob (qlo_has x1 M) (fun r1 M2 =>
  if r1 = 0 then
  (some ((), M2)) else
  (ck (ib 40 x1 && true) (
    some ((), (wI M2 272 (Int32.toNatClampNeg x1) x2)))))
theorem mt_403 : MT 403 K_403 LN_4 := ⟨rfl, rfl, by decide +kernel⟩
theorem okm_403 : OKm 403 := ⟨⟨vE_403, okL_4, by decide +kernel⟩, by decide +kernel, by decide +kernel, by decide +kernel⟩
set_option maxRecDepth 20000 in
theorem qlo_setKind_ok (d : Nat) (hd : 2 ≤ d) {x1 : Int32} {x2 : Int32} {M : SM} {r : Unit} {Mz : SM} (hs : qlo_setKind x1 x2 M = some (r, Mz)) : Ex d 403 [.ref 270, .int x1, .int x2] (gm M) (none, gm Mz) := by
  obtain ⟨d, rfl⟩ : ∃ d0, d = d0 + 1 := ⟨d - 1, by omega⟩
  refine Ex.of okm_403 (by omega) (Nat.le_of_ble_eq_true rfl) ?_
  show Rc (d + 1) 403 (0, [.ref 270, .int x1, .int x2], [], gm M) _
  unfold qlo_setKind at hs
  refine Rc.goL mt_403 1 (f2 := (2, [.ref 270, .int x1, .int x2], [.int x1, .ref 270], gm M)) (b := true) rfl rfl ?_
  obtain ⟨r1, M2, he3, hs⟩ := ob_some hs
  refine Rc.callV (i := 22) (mid' := 401) (av := [.int x1]) (rest := []) (v := some (.int r1)) (M1 := gm M2) (a := 270) rfl rfl rfl cw_401 rfl (Nat.le_of_ble_eq_true rfl) rfl (Nat.le_of_ble_eq_true rfl) (qlo_has_ok _ (by omega) he3) ?_
  by_cases h5 : r1 = 0
  · rw [if_pos h5] at hs
    refine Rc.goL mt_403 0 (f2 := (if r1 = 0 then 15 else 8, [.ref 270, .int x1, .int x2], [], gm M2)) (b := true) rfl rfl ?_
    rw [if_pos h5]
    obtain ⟨e1, e2⟩ := some_p hs; subst e1; subst e2
    exact Rc.ret (v := none) rfl rfl
  · rw [if_neg h5] at hs
    refine Rc.goL mt_403 0 (f2 := (if r1 = 0 then 15 else 8, [.ref 270, .int x1, .int x2], [], gm M2)) (b := true) rfl rfl ?_
    rw [if_neg h5]
    obtain ⟨hb4, hs⟩ := ck_some hs
    refine Rc.goL mt_403 4 (f2 := (15, [.ref 270, .int x1, .int x2], [], gm (wI M2 272 (Int32.toNatClampNeg x1) x2))) (b := (ib 40 x1 && true)) rfl hb4 ?_
    obtain ⟨e1, e2⟩ := some_p hs; subst e1; subst e2
    exact Rc.ret (v := none) rfl rfl
def qjI_bitCount (x0 : Int32) (M : SM) : Option (Int32 × SM) :=
  lt (((x0 - ((ushr x0 (1 : Int32)) &&& (1431655765 : Int32))) &&& (858993459 : Int32)) + ((ushr (x0 - ((ushr x0 (1 : Int32)) &&& (1431655765 : Int32))) (2 : Int32)) &&& (858993459 : Int32))) (fun (z1 : Int32) =>
  lt (((z1 + (ushr z1 (4 : Int32))) &&& (252645135 : Int32)) + (ushr ((z1 + (ushr z1 (4 : Int32))) &&& (252645135 : Int32)) (8 : Int32))) (fun (z2 : Int32) =>
  some (((z2 + (ushr z2 (16 : Int32))) &&& (63 : Int32)), M)))
theorem mt_1300 : MT 1300 K_1300 LN_13 := ⟨rfl, rfl, by decide +kernel⟩
theorem okm_1300 : OKm 1300 := ⟨⟨vE_1300, okL_13, by decide +kernel⟩, by decide +kernel, by decide +kernel, by decide +kernel⟩
set_option maxRecDepth 20000 in
theorem qjI_bitCount_ok (d : Nat) (hd : 1 ≤ d) {x0 : Int32} {M : SM} {r : Int32} {Mz : SM} (hs : qjI_bitCount x0 M = some (r, Mz)) : Ex d 1300 [.int x0] (gm M) (some (.int r), gm Mz) := by
  obtain ⟨d, rfl⟩ : ∃ d0, d = d0 + 1 := ⟨d - 1, by omega⟩
  refine Ex.of okm_1300 (by omega) (Nat.le_of_ble_eq_true rfl) ?_
  show Rc (d + 1) 1300 (0, [.int x0], [], gm M) _
  unfold qjI_bitCount at hs
  refine Rc.goL mt_1300 6 (f2 := (9, [.int x0], [.int (x0 - ((ushr x0 (1 : Int32)) &&& (1431655765 : Int32)))], gm M)) (b := true) rfl rfl ?_
  refine Rc.goL mt_1300 6 (f2 := (18, [.int (x0 - ((ushr x0 (1 : Int32)) &&& (1431655765 : Int32)))], [.int (ushr (x0 - ((ushr x0 (1 : Int32)) &&& (1431655765 : Int32))) (2 : Int32)), .int ((x0 - ((ushr x0 (1 : Int32)) &&& (1431655765 : Int32))) &&& (858993459 : Int32))], gm M)) (b := true) rfl rfl ?_
  refine lt_g hs (fun z1 Hz1 hs => ?_)
  refine Rc.goL mt_1300 3 (f2 := (24, [.int z1], [], gm M)) (b := true) (by subst Hz1; rfl) rfl ?_
  refine Rc.goL mt_1300 6 (f2 := (33, [.int z1], [.int ((z1 + (ushr z1 (4 : Int32))) &&& (252645135 : Int32))], gm M)) (b := true) rfl rfl ?_
  refine lt_g hs (fun z2 Hz2 hs => ?_)
  refine Rc.goL mt_1300 6 (f2 := (41, [.int z2], [], gm M)) (b := true) (by subst Hz2; rfl) rfl ?_
  refine Rc.goL mt_1300 6 (f2 := (49, [.int (z2 + (ushr z2 (16 : Int32)))], [.int (z2 + (ushr z2 (16 : Int32)))], gm M)) (b := true) rfl rfl ?_
  refine Rc.goL mt_1300 1 (f2 := (52, [.int (z2 + (ushr z2 (16 : Int32)))], [.int ((z2 + (ushr z2 (16 : Int32))) &&& (63 : Int32))], gm M)) (b := true) rfl rfl ?_
  obtain ⟨e1, e2⟩ := some_p hs; subst e1; subst e2
  exact Rc.ret (v := some (.int ((z2 + (ushr z2 (16 : Int32))) &&& (63 : Int32)))) rfl rfl
def qlo_kindOf_L34 : Nat → Int32 → Int32 → Int32 → Int32 → SM → Option (Int32 × SM)
  | 0, _, _, _, _, _ => none
  | n + 1, x1, x2, x3, x4, M =>
    if x4 < (M.1 270 0) then
    (if x4 < (40 : Int32) then
      (ck (ib 40 x4 && true) (
        if (M.1 272 (Int32.toNatClampNeg x4)) = 0 then
        (qlo_kindOf_L34 n x1 x2 x3 (x4 + (1 : Int32)) M) else
        (ck (ib 40 x4 && (ib 40 x1 && true)) (
          ob (qjI_bitCount ((M.1 271 (Int32.toNatClampNeg x4)) ^^^ (M.1 271 (Int32.toNatClampNeg x1))) M) (fun r7 M8 =>
          jn (fun (x1_10 : Int32) (x2_11 : Int32) (x3_12 : Int32) (x4_13 : Int32) (x5_14 : Int32) (M15 : SM) =>
            if x2_11 < x5_14 then
              (qlo_kindOf_L34 n x1_10 (imn x2_11 x5_14) x3_12 (x4_13 + (1 : Int32)) M15) else
              (ck (ib 40 x4_13 && true) (
                qlo_kindOf_L34 n x1_10 (imn x2_11 x5_14) (x3_12 ||| (M15.1 272 (Int32.toNatClampNeg x4_13))) (x4_13 + (1 : Int32)) M15))) (fun j18 =>
          if r7 < x2 then
          (j18 x1 x2 (0 : Int32) x4 r7 M8) else
          (j18 x1 x2 x3 x4 r7 M8))))))) else
      (some (x3, M))) else
    (some (x3, M))
def qlo_kindOf (x1 : Int32) (M : SM) : Option (Int32 × SM) :=
  ob (qlo_has x1 M) (fun r1 M2 =>
  if r1 = 0 then
  (some ((-1 : Int32), M2)) else
  (ck (ib 40 x1 && true) (
    if (M2.1 272 (Int32.toNatClampNeg x1)) = 0 then
    (qlo_kindOf_L34 FU x1 (9 : Int32) (0 : Int32) (0 : Int32) M2) else
    (ck (ib 40 x1 && true) (
      some ((M2.1 272 (Int32.toNatClampNeg x1)), M2))))))
theorem mt_404 : MT 404 K_404 LN_4 := ⟨rfl, rfl, by decide +kernel⟩
theorem okm_404 : OKm 404 := ⟨⟨vE_404, okL_4, by decide +kernel⟩, by decide +kernel, by decide +kernel, by decide +kernel⟩
set_option maxRecDepth 20000 in
theorem qlo_kindOf_L34_ok (d : Nat) (hd : 2 ≤ d + 1) : ∀ (n : Nat) (x1 : Int32) (x2 : Int32) (x3 : Int32) (x4 : Int32) (M : SM) (r : Int32) (Mz : SM), qlo_kindOf_L34 n x1 x2 x3 x4 M = some (r, Mz) → Rc (d + 1) 404 (34, [.ref 270, .int x1, .int x2, .int x3, .int x4, UU], [], gm M) (some (.int r), gm Mz) := by
  intro n
  induction n with
  | zero => intro x1 x2 x3 x4 M r Mz hs; cases hs
  | succ n ih =>
    intro x1 x2 x3 x4 M r Mz hs
    rw [qlo_kindOf_L34] at hs
    by_cases h22 : x4 < (M.1 270 0)
    · rw [if_pos h22] at hs
      refine Rc.goL mt_404 3 (f2 := (if x4 < (M.1 270 0) then 43 else 119, [.ref 270, .int x1, .int x2, .int x3, .int x4, UU], [], gm M)) (b := true) rfl rfl ?_
      rw [if_pos h22]
      by_cases h21 : x4 < (40 : Int32)
      · rw [if_pos h21] at hs
        refine Rc.goL mt_404 2 (f2 := (if x4 < (40 : Int32) then 50 else 119, [.ref 270, .int x1, .int x2, .int x3, .int x4, UU], [], gm M)) (b := true) rfl rfl ?_
        rw [if_pos h21]
        obtain ⟨hb5, hs⟩ := ck_some hs
        by_cases h20 : (M.1 272 (Int32.toNatClampNeg x4)) = 0
        · rw [if_pos h20] at hs
          refine Rc.goL mt_404 4 (f2 := (if (M.1 272 (Int32.toNatClampNeg x4)) = 0 then 60 else 63, [.ref 270, .int x1, .int x2, .int x3, .int x4, UU], [], gm M)) (b := (ib 40 x4 && true)) rfl hb5 ?_
          rw [if_pos h20]
          refine Rc.goL mt_404 0 (f2 := (113, [.ref 270, .int x1, .int x2, .int x3, .int x4, UU], [], gm M)) (b := true) rfl rfl ?_
          refine Rc.goL mt_404 1 (f2 := (34, [.ref 270, .int x1, .int x2, .int x3, .int (x4 + (1 : Int32)), UU], [], gm M)) (b := true) rfl rfl ?_
          refine Rc.less (ls2 := [.ref 270, .int x1, .int x2, .int x3, .int (x4 + (1 : Int32)), UU]) (by refine ⟨Or.inr rfl, Or.inr rfl, Or.inr rfl, Or.inr rfl, Or.inr rfl, Or.inl rfl, trivial⟩) ?_
          exact ih x1 x2 x3 (x4 + (1 : Int32)) _ _ _ hs
        · rw [if_neg h20] at hs
          refine Rc.goL mt_404 4 (f2 := (if (M.1 272 (Int32.toNatClampNeg x4)) = 0 then 60 else 63, [.ref 270, .int x1, .int x2, .int x3, .int x4, UU], [], gm M)) (b := (ib 40 x4 && true)) rfl hb5 ?_
          rw [if_neg h20]
          obtain ⟨hb6, hs⟩ := ck_some hs
          obtain ⟨hb6_0, hb6⟩ := and_t hb6
          obtain ⟨hb6_1, hb6⟩ := and_t hb6
          refine Rc.goL mt_404 6 (f2 := (75, [.ref 270, .int x1, .int x2, .int x3, .int x4, UU], [.int x1, .ref 271, .int (M.1 271 (Int32.toNatClampNeg x4))], gm M)) (b := (ib 40 x4 && true)) rfl (and_i hb6_0 rfl) ?_
          refine Rc.goL mt_404 1 (f2 := (77, [.ref 270, .int x1, .int x2, .int x3, .int x4, UU], [.int ((M.1 271 (Int32.toNatClampNeg x4)) ^^^ (M.1 271 (Int32.toNatClampNeg x1)))], gm M)) (b := (ib 40 x1 && true)) rfl (and_i hb6_1 rfl) ?_
          obtain ⟨r7, M8, he9, hs⟩ := ob_some hs
          refine Rc.callS (i := 26) (mid' := 1300) (av := [.int ((M.1 271 (Int32.toNatClampNeg x4)) ^^^ (M.1 271 (Int32.toNatClampNeg x1)))]) (rest := []) (v := some (.int r7)) (M1 := gm M8) rfl (Or.inl rfl) rfl cw_1300 rfl (Nat.le_of_ble_eq_true rfl) (qjI_bitCount_ok _ (by omega) he9) ?_
          refine jn_e (P := fun (j : Int32 → Int32 → Int32 → Int32 → Int32 → SM → Option (Int32 × SM)) => ∀ (x1_10 : Int32) (x2_11 : Int32) (x3_12 : Int32) (x4_13 : Int32) (x5_14 : Int32) (M15 : SM) (r : Int32) (Mz : SM), j x1_10 x2_11 x3_12 x4_13 x5_14 M15 = some (r, Mz) → Rc (d + 1) 404 (90, [.ref 270, .int x1_10, .int x2_11, .int x3_12, .int x4_13, .int x5_14], [], gm M15) (some (.int r), gm Mz)) hs ?_ (fun j18 Hj18 hs => ?_)
          · intro x1_10 x2_11 x3_12 x4_13 x5_14 M15 r Mz hs
            try dsimp only at hs
            by_cases h17 : x2_11 < x5_14
            · rw [if_pos h17] at hs
              refine Rc.goL mt_404 2 (f2 := (if x2_11 < x5_14 then 106 else 96, [.ref 270, .int x1_10, .int x2_11, .int x3_12, .int x4_13, .int x5_14], [], gm M15)) (b := true) rfl rfl ?_
              rw [if_pos h17]
              refine Rc.goL mt_404 3 (f2 := (113, [.ref 270, .int x1_10, .int (imn x2_11 x5_14), .int x3_12, .int x4_13, .int x5_14], [], gm M15)) (b := true) rfl rfl ?_
              refine Rc.goL mt_404 1 (f2 := (34, [.ref 270, .int x1_10, .int (imn x2_11 x5_14), .int x3_12, .int (x4_13 + (1 : Int32)), .int x5_14], [], gm M15)) (b := true) rfl rfl ?_
              refine Rc.less (ls2 := [.ref 270, .int x1_10, .int (imn x2_11 x5_14), .int x3_12, .int (x4_13 + (1 : Int32)), UU]) (by refine ⟨Or.inr rfl, Or.inr rfl, Or.inr rfl, Or.inr rfl, Or.inr rfl, Or.inl rfl, trivial⟩) ?_
              exact ih x1_10 (imn x2_11 x5_14) x3_12 (x4_13 + (1 : Int32)) _ _ _ hs
            · rw [if_neg h17] at hs
              refine Rc.goL mt_404 2 (f2 := (if x2_11 < x5_14 then 106 else 96, [.ref 270, .int x1_10, .int x2_11, .int x3_12, .int x4_13, .int x5_14], [], gm M15)) (b := true) rfl rfl ?_
              rw [if_neg h17]
              obtain ⟨hb16, hs⟩ := ck_some hs
              refine Rc.goL mt_404 6 (f2 := (106, [.ref 270, .int x1_10, .int x2_11, .int (x3_12 ||| (M15.1 272 (Int32.toNatClampNeg x4_13))), .int x4_13, .int x5_14], [], gm M15)) (b := (ib 40 x4_13 && true)) rfl hb16 ?_
              refine Rc.goL mt_404 3 (f2 := (113, [.ref 270, .int x1_10, .int (imn x2_11 x5_14), .int (x3_12 ||| (M15.1 272 (Int32.toNatClampNeg x4_13))), .int x4_13, .int x5_14], [], gm M15)) (b := true) rfl rfl ?_
              refine Rc.goL mt_404 1 (f2 := (34, [.ref 270, .int x1_10, .int (imn x2_11 x5_14), .int (x3_12 ||| (M15.1 272 (Int32.toNatClampNeg x4_13))), .int (x4_13 + (1 : Int32)), .int x5_14], [], gm M15)) (b := true) rfl rfl ?_
              refine Rc.less (ls2 := [.ref 270, .int x1_10, .int (imn x2_11 x5_14), .int (x3_12 ||| (M15.1 272 (Int32.toNatClampNeg x4_13))), .int (x4_13 + (1 : Int32)), UU]) (by refine ⟨Or.inr rfl, Or.inr rfl, Or.inr rfl, Or.inr rfl, Or.inr rfl, Or.inl rfl, trivial⟩) ?_
              exact ih x1_10 (imn x2_11 x5_14) (x3_12 ||| (M15.1 272 (Int32.toNatClampNeg x4_13))) (x4_13 + (1 : Int32)) _ _ _ hs
          by_cases h19 : r7 < x2
          · rw [if_pos h19] at hs
            refine Rc.goL mt_404 3 (f2 := (if r7 < x2 then 88 else 90, [.ref 270, .int x1, .int x2, .int x3, .int x4, .int r7], [], gm M8)) (b := true) rfl rfl ?_
            rw [if_pos h19]
            refine Rc.goL mt_404 1 (f2 := (90, [.ref 270, .int x1, .int x2, .int (0 : Int32), .int x4, .int r7], [], gm M8)) (b := true) rfl rfl ?_
            refine Rc.less (ls2 := [.ref 270, .int x1, .int x2, .int (0 : Int32), .int x4, .int r7]) (by refine ⟨Or.inr rfl, Or.inr rfl, Or.inr rfl, Or.inr rfl, Or.inr rfl, Or.inr rfl, trivial⟩) ?_
            exact Hj18 x1 x2 (0 : Int32) x4 r7 _ _ _ hs
          · rw [if_neg h19] at hs
            refine Rc.goL mt_404 3 (f2 := (if r7 < x2 then 88 else 90, [.ref 270, .int x1, .int x2, .int x3, .int x4, .int r7], [], gm M8)) (b := true) rfl rfl ?_
            rw [if_neg h19]
            refine Rc.less (ls2 := [.ref 270, .int x1, .int x2, .int x3, .int x4, .int r7]) (by refine ⟨Or.inr rfl, Or.inr rfl, Or.inr rfl, Or.inr rfl, Or.inr rfl, Or.inr rfl, trivial⟩) ?_
            exact Hj18 x1 x2 x3 x4 r7 _ _ _ hs
      · rw [if_neg h21] at hs
        refine Rc.goL mt_404 2 (f2 := (if x4 < (40 : Int32) then 50 else 119, [.ref 270, .int x1, .int x2, .int x3, .int x4, UU], [], gm M)) (b := true) rfl rfl ?_
        rw [if_neg h21]
        refine Rc.goL mt_404 0 (f2 := (120, [.ref 270, .int x1, .int x2, .int x3, .int x4, UU], [.int x3], gm M)) (b := true) rfl rfl ?_
        obtain ⟨e1, e2⟩ := some_p hs; subst e1; subst e2
        exact Rc.ret (v := some (.int x3)) rfl rfl
    · rw [if_neg h22] at hs
      refine Rc.goL mt_404 3 (f2 := (if x4 < (M.1 270 0) then 43 else 119, [.ref 270, .int x1, .int x2, .int x3, .int x4, UU], [], gm M)) (b := true) rfl rfl ?_
      rw [if_neg h22]
      refine Rc.goL mt_404 0 (f2 := (120, [.ref 270, .int x1, .int x2, .int x3, .int x4, UU], [.int x3], gm M)) (b := true) rfl rfl ?_
      obtain ⟨e1, e2⟩ := some_p hs; subst e1; subst e2
      exact Rc.ret (v := some (.int x3)) rfl rfl
set_option maxRecDepth 20000 in
theorem qlo_kindOf_ok (d : Nat) (hd : 2 ≤ d) {x1 : Int32} {M : SM} {r : Int32} {Mz : SM} (hs : qlo_kindOf x1 M = some (r, Mz)) : Ex d 404 [.ref 270, .int x1] (gm M) (some (.int r), gm Mz) := by
  obtain ⟨d, rfl⟩ : ∃ d0, d = d0 + 1 := ⟨d - 1, by omega⟩
  refine Ex.of okm_404 (by omega) (Nat.le_of_ble_eq_true rfl) ?_
  show Rc (d + 1) 404 (0, [.ref 270, .int x1, UU, UU, UU, UU], [], gm M) _
  unfold qlo_kindOf at hs
  refine Rc.goL mt_404 1 (f2 := (2, [.ref 270, .int x1, UU, UU, UU, UU], [.int x1, .ref 270], gm M)) (b := true) rfl rfl ?_
  obtain ⟨r1, M2, he3, hs⟩ := ob_some hs
  refine Rc.callV (i := 22) (mid' := 401) (av := [.int x1]) (rest := []) (v := some (.int r1)) (M1 := gm M2) (a := 270) rfl rfl rfl cw_401 rfl (Nat.le_of_ble_eq_true rfl) rfl (Nat.le_of_ble_eq_true rfl) (qlo_has_ok _ (by omega) he3) ?_
  by_cases h25 : r1 = 0
  · rw [if_pos h25] at hs
    refine Rc.goL mt_404 0 (f2 := (if r1 = 0 then 8 else 10, [.ref 270, .int x1, UU, UU, UU, UU], [], gm M2)) (b := true) rfl rfl ?_
    rw [if_pos h25]
    refine Rc.goL mt_404 0 (f2 := (9, [.ref 270, .int x1, UU, UU, UU, UU], [.int (-1 : Int32)], gm M2)) (b := true) rfl rfl ?_
    obtain ⟨e1, e2⟩ := some_p hs; subst e1; subst e2
    exact Rc.ret (v := some (.int (-1 : Int32))) rfl rfl
  · rw [if_neg h25] at hs
    refine Rc.goL mt_404 0 (f2 := (if r1 = 0 then 8 else 10, [.ref 270, .int x1, UU, UU, UU, UU], [], gm M2)) (b := true) rfl rfl ?_
    rw [if_neg h25]
    obtain ⟨hb4, hs⟩ := ck_some hs
    by_cases h24 : (M2.1 272 (Int32.toNatClampNeg x1)) = 0
    · rw [if_pos h24] at hs
      refine Rc.goL mt_404 4 (f2 := (if (M2.1 272 (Int32.toNatClampNeg x1)) = 0 then 26 else 19, [.ref 270, .int x1, UU, UU, UU, UU], [], gm M2)) (b := (ib 40 x1 && true)) rfl hb4 ?_
      rw [if_pos h24]
      refine Rc.goL mt_404 5 (f2 := (34, [.ref 270, .int x1, .int (9 : Int32), .int (0 : Int32), .int (0 : Int32), UU], [], gm M2)) (b := true) rfl rfl ?_
      refine Rc.less (ls2 := [.ref 270, .int x1, .int (9 : Int32), .int (0 : Int32), .int (0 : Int32), UU]) (by refine ⟨Or.inr rfl, Or.inr rfl, Or.inr rfl, Or.inr rfl, Or.inr rfl, Or.inl rfl, trivial⟩) ?_
      exact qlo_kindOf_L34_ok d hd _ x1 (9 : Int32) (0 : Int32) (0 : Int32) _ _ _ hs
    · rw [if_neg h24] at hs
      refine Rc.goL mt_404 4 (f2 := (if (M2.1 272 (Int32.toNatClampNeg x1)) = 0 then 26 else 19, [.ref 270, .int x1, UU, UU, UU, UU], [], gm M2)) (b := (ib 40 x1 && true)) rfl hb4 ?_
      rw [if_neg h24]
      obtain ⟨hb23, hs⟩ := ck_some hs
      refine Rc.goL mt_404 3 (f2 := (25, [.ref 270, .int x1, UU, UU, UU, UU], [.int (M2.1 272 (Int32.toNatClampNeg x1))], gm M2)) (b := (ib 40 x1 && true)) rfl hb23 ?_
      obtain ⟨e1, e2⟩ := some_p hs; subst e1; subst e2
      exact Rc.ret (v := some (.int (M2.1 272 (Int32.toNatClampNeg x1)))) rfl rfl
def qod_hasRoom (M : SM) : Option (Int32 × SM) :=
  if (M.1 244 7) < 0 then
  (some ((0 : Int32), M)) else
  (if (M.1 244 7) < (10 : Int32) then
    (some ((1 : Int32), M)) else
    (some ((0 : Int32), M)))
theorem mt_501 : MT 501 K_501 LN_5 := ⟨rfl, rfl, by decide +kernel⟩
theorem okm_501 : OKm 501 := ⟨⟨vE_501, okL_5, by decide +kernel⟩, by decide +kernel, by decide +kernel, by decide +kernel⟩
set_option maxRecDepth 20000 in
theorem qod_hasRoom_ok (d : Nat) (hd : 1 ≤ d) {M : SM} {r : Int32} {Mz : SM} (hs : qod_hasRoom M = some (r, Mz)) : Ex d 501 [.ref 244] (gm M) (some (.int r), gm Mz) := by
  obtain ⟨d, rfl⟩ : ∃ d0, d = d0 + 1 := ⟨d - 1, by omega⟩
  refine Ex.of okm_501 (by omega) (Nat.le_of_ble_eq_true rfl) ?_
  show Rc (d + 1) 501 (0, [.ref 244], [], gm M) _
  unfold qod_hasRoom at hs
  by_cases h2 : (M.1 244 7) < 0
  · rw [if_pos h2] at hs
    refine Rc.goL mt_501 2 (f2 := (if (M.1 244 7) < 0 then 20 else 7, [.ref 244], [], gm M)) (b := true) rfl rfl ?_
    rw [if_pos h2]
    refine Rc.goL mt_501 0 (f2 := (21, [.ref 244], [.int (0 : Int32)], gm M)) (b := true) rfl rfl ?_
    obtain ⟨e1, e2⟩ := some_p hs; subst e1; subst e2
    exact Rc.ret (v := some (.int (0 : Int32))) rfl rfl
  · rw [if_neg h2] at hs
    refine Rc.goL mt_501 2 (f2 := (if (M.1 244 7) < 0 then 20 else 7, [.ref 244], [], gm M)) (b := true) rfl rfl ?_
    rw [if_neg h2]
    by_cases h1 : (M.1 244 7) < (10 : Int32)
    · rw [if_pos h1] at hs
      refine Rc.goL mt_501 3 (f2 := (if (M.1 244 7) < (10 : Int32) then 16 else 20, [.ref 244], [], gm M)) (b := true) rfl rfl ?_
      rw [if_pos h1]
      refine Rc.goL mt_501 1 (f2 := (21, [.ref 244], [.int (1 : Int32)], gm M)) (b := true) rfl rfl ?_
      obtain ⟨e1, e2⟩ := some_p hs; subst e1; subst e2
      exact Rc.ret (v := some (.int (1 : Int32))) rfl rfl
    · rw [if_neg h1] at hs
      refine Rc.goL mt_501 3 (f2 := (if (M.1 244 7) < (10 : Int32) then 16 else 20, [.ref 244], [], gm M)) (b := true) rfl rfl ?_
      rw [if_neg h1]
      refine Rc.goL mt_501 0 (f2 := (21, [.ref 244], [.int (0 : Int32)], gm M)) (b := true) rfl rfl ?_
      obtain ⟨e1, e2⟩ := some_p hs; subst e1; subst e2
      exact Rc.ret (v := some (.int (0 : Int32))) rfl rfl
def qod_setGain (x1 : Int32) (x2 : Int64) (M : SM) : Option (Unit × SM) :=
  ob (qod_hasRoom M) (fun r1 M2 =>
  if r1 = 0 then
  (some ((), M2)) else
  (if x1 < 0 then
    (some ((), M2)) else
    (if (24 : Int32) < x1 then
      (some ((), M2)) else
      (ck (ib 10 (M2.1 244 7) && (av 336 21 (247 + (Int32.toNatClampNeg (M2.1 244 7))) x1 && true)) (
        some ((), (wL M2 (247 + (Int32.toNatClampNeg (M2.1 244 7))) (Int32.toNatClampNeg x1) x2)))))))
theorem mt_502 : MT 502 K_502 LN_5 := ⟨rfl, rfl, by decide +kernel⟩
theorem okm_502 : OKm 502 := ⟨⟨vE_502, okL_5, by decide +kernel⟩, by decide +kernel, by decide +kernel, by decide +kernel⟩
set_option maxRecDepth 20000 in
theorem qod_setGain_ok (d : Nat) (hd : 2 ≤ d) {x1 : Int32} {x2 : Int64} {M : SM} {r : Unit} {Mz : SM} (hs : qod_setGain x1 x2 M = some (r, Mz)) : Ex d 502 [.ref 244, .int x1, .long x2] (gm M) (none, gm Mz) := by
  obtain ⟨d, rfl⟩ : ∃ d0, d = d0 + 1 := ⟨d - 1, by omega⟩
  refine Ex.of okm_502 (by omega) (Nat.le_of_ble_eq_true rfl) ?_
  show Rc (d + 1) 502 (0, [.ref 244, .int x1, .long x2, UU], [], gm M) _
  unfold qod_setGain at hs
  refine Rc.goL mt_502 0 (f2 := (1, [.ref 244, .int x1, .long x2, UU], [.ref 244], gm M)) (b := true) rfl rfl ?_
  obtain ⟨r1, M2, he3, hs⟩ := ob_some hs
  refine Rc.callV (i := 32) (mid' := 501) (av := []) (rest := []) (v := some (.int r1)) (M1 := gm M2) (a := 244) rfl rfl rfl cw_501 rfl (Nat.le_of_ble_eq_true rfl) rfl (Nat.le_of_ble_eq_true rfl) (qod_hasRoom_ok _ (by omega) he3) ?_
  by_cases h7 : r1 = 0
  · rw [if_pos h7] at hs
    refine Rc.goL mt_502 0 (f2 := (if r1 = 0 then 29 else 7, [.ref 244, .int x1, .long x2, UU], [], gm M2)) (b := true) rfl rfl ?_
    rw [if_pos h7]
    obtain ⟨e1, e2⟩ := some_p hs; subst e1; subst e2
    exact Rc.ret (v := none) rfl rfl
  · rw [if_neg h7] at hs
    refine Rc.goL mt_502 0 (f2 := (if r1 = 0 then 29 else 7, [.ref 244, .int x1, .long x2, UU], [], gm M2)) (b := true) rfl rfl ?_
    rw [if_neg h7]
    by_cases h6 : x1 < 0
    · rw [if_pos h6] at hs
      refine Rc.goL mt_502 1 (f2 := (if x1 < 0 then 29 else 11, [.ref 244, .int x1, .long x2, UU], [], gm M2)) (b := true) rfl rfl ?_
      rw [if_pos h6]
      obtain ⟨e1, e2⟩ := some_p hs; subst e1; subst e2
      exact Rc.ret (v := none) rfl rfl
    · rw [if_neg h6] at hs
      refine Rc.goL mt_502 1 (f2 := (if x1 < 0 then 29 else 11, [.ref 244, .int x1, .long x2, UU], [], gm M2)) (b := true) rfl rfl ?_
      rw [if_neg h6]
      by_cases h5 : (24 : Int32) < x1
      · rw [if_pos h5] at hs
        refine Rc.goL mt_502 2 (f2 := (if (24 : Int32) < x1 then 29 else 17, [.ref 244, .int x1, .long x2, UU], [], gm M2)) (b := true) rfl rfl ?_
        rw [if_pos h5]
        obtain ⟨e1, e2⟩ := some_p hs; subst e1; subst e2
        exact Rc.ret (v := none) rfl rfl
      · rw [if_neg h5] at hs
        refine Rc.goL mt_502 2 (f2 := (if (24 : Int32) < x1 then 29 else 17, [.ref 244, .int x1, .long x2, UU], [], gm M2)) (b := true) rfl rfl ?_
        rw [if_neg h5]
        obtain ⟨hb4, hs⟩ := ck_some hs
        obtain ⟨hb4_0, hb4⟩ := and_t hb4
        obtain ⟨hb4_1, hb4⟩ := and_t hb4
        refine Rc.goL mt_502 6 (f2 := (28, [.ref 244, .int x1, .long x2, UU], [.long x2, .int x1, .ref (247 + (Int32.toNatClampNeg (M2.1 244 7)))], gm M2)) (b := (ib 10 (M2.1 244 7) && true)) rfl (and_i hb4_0 rfl) ?_
        refine Rc.goL mt_502 0 (f2 := (29, [.ref 244, .int x1, .long x2, UU], [], gm (wL M2 (247 + (Int32.toNatClampNeg (M2.1 244 7))) (Int32.toNatClampNeg x1) x2))) (b := (av 336 21 (247 + (Int32.toNatClampNeg (M2.1 244 7))) x1 && true)) rfl (and_i hb4_1 rfl) ?_
        obtain ⟨e1, e2⟩ := some_p hs; subst e1; subst e2
        exact Rc.ret (v := none) rfl rfl
def qod_addFrame (x1 : Int32) (M : SM) : Option (Unit × SM) :=
  ob (qod_hasRoom M) (fun r1 M2 =>
  if r1 = 0 then
  (some ((), M2)) else
  (ck (ib 10 (M2.1 244 7) && true) (
    some ((), (wI (wI M2 245 (Int32.toNatClampNeg (M2.1 244 7)) x1) 244 7 ((M2.1 244 7) + (1 : Int32)))))))
theorem mt_503 : MT 503 K_503 LN_5 := ⟨rfl, rfl, by decide +kernel⟩
theorem okm_503 : OKm 503 := ⟨⟨vE_503, okL_5, by decide +kernel⟩, by decide +kernel, by decide +kernel, by decide +kernel⟩
set_option maxRecDepth 20000 in
theorem qod_addFrame_ok (d : Nat) (hd : 2 ≤ d) {x1 : Int32} {M : SM} {r : Unit} {Mz : SM} (hs : qod_addFrame x1 M = some (r, Mz)) : Ex d 503 [.ref 244, .int x1] (gm M) (none, gm Mz) := by
  obtain ⟨d, rfl⟩ : ∃ d0, d = d0 + 1 := ⟨d - 1, by omega⟩
  refine Ex.of okm_503 (by omega) (Nat.le_of_ble_eq_true rfl) ?_
  show Rc (d + 1) 503 (0, [.ref 244, .int x1], [], gm M) _
  unfold qod_addFrame at hs
  refine Rc.goL mt_503 0 (f2 := (1, [.ref 244, .int x1], [.ref 244], gm M)) (b := true) rfl rfl ?_
  obtain ⟨r1, M2, he3, hs⟩ := ob_some hs
  refine Rc.callV (i := 32) (mid' := 501) (av := []) (rest := []) (v := some (.int r1)) (M1 := gm M2) (a := 244) rfl rfl rfl cw_501 rfl (Nat.le_of_ble_eq_true rfl) rfl (Nat.le_of_ble_eq_true rfl) (qod_hasRoom_ok _ (by omega) he3) ?_
  by_cases h5 : r1 = 0
  · rw [if_pos h5] at hs
    refine Rc.goL mt_503 0 (f2 := (if r1 = 0 then 7 else 8, [.ref 244, .int x1], [], gm M2)) (b := true) rfl rfl ?_
    rw [if_pos h5]
    obtain ⟨e1, e2⟩ := some_p hs; subst e1; subst e2
    exact Rc.ret (v := none) rfl rfl
  · rw [if_neg h5] at hs
    refine Rc.goL mt_503 0 (f2 := (if r1 = 0 then 7 else 8, [.ref 244, .int x1], [], gm M2)) (b := true) rfl rfl ?_
    rw [if_neg h5]
    obtain ⟨hb4, hs⟩ := ck_some hs
    obtain ⟨hb4_0, hb4⟩ := and_t hb4
    refine Rc.goL mt_503 5 (f2 := (18, [.ref 244, .int x1], [], gm (wI M2 245 (Int32.toNatClampNeg (M2.1 244 7)) x1))) (b := (ib 10 (M2.1 244 7) && true)) rfl (and_i hb4_0 rfl) ?_
    refine Rc.goL mt_503 5 (f2 := (28, [.ref 244, .int x1], [], gm (wI (wI M2 245 (Int32.toNatClampNeg (M2.1 244 7)) x1) 244 7 ((M2.1 244 7) + (1 : Int32))))) (b := true) rfl rfl ?_
    obtain ⟨e1, e2⟩ := some_p hs; subst e1; subst e2
    exact Rc.ret (v := none) rfl rfl
def qod_gainAt (x1 : Int32) (x2 : Int32) (M : SM) : Option (Int64 × SM) :=
  jn (fun (x1_1 : Int32) (x2_2 : Int32) (t3 : Int32) (M4 : SM) =>
    if t3 = 0 then
      (some ((-1000000000000 : Int64), M4)) else
      (ck (ib 10 x1_1 && (av 336 21 (247 + (Int32.toNatClampNeg x1_1)) x2_2 && true)) (
        some ((M4.2 (247 + (Int32.toNatClampNeg x1_1)) (Int32.toNatClampNeg x2_2)), M4)))) (fun j7 =>
  jn (fun (x1_8 : Int32) (x2_9 : Int32) (M10 : SM) =>
    j7 x1_8 x2_9 (0 : Int32) M10) (fun j11 =>
  if x1 < 0 then
  (j11 x1 x2 M) else
  (if x1 < (M.1 244 7) then
    (if x1 < (10 : Int32) then
      (if x2 < 0 then
        (j11 x1 x2 M) else
        (if (24 : Int32) < x2 then
          (j11 x1 x2 M) else
          (j7 x1 x2 (1 : Int32) M))) else
      (j11 x1 x2 M)) else
    (j11 x1 x2 M))))
theorem mt_504 : MT 504 K_504 LN_5 := ⟨rfl, rfl, by decide +kernel⟩
theorem okm_504 : OKm 504 := ⟨⟨vE_504, okL_5, by decide +kernel⟩, by decide +kernel, by decide +kernel, by decide +kernel⟩
set_option maxRecDepth 20000 in
theorem qod_gainAt_ok (d : Nat) (hd : 1 ≤ d) {x1 : Int32} {x2 : Int32} {M : SM} {r : Int64} {Mz : SM} (hs : qod_gainAt x1 x2 M = some (r, Mz)) : Ex d 504 [.ref 244, .int x1, .int x2] (gm M) (some (.long r), gm Mz) := by
  obtain ⟨d, rfl⟩ : ∃ d0, d = d0 + 1 := ⟨d - 1, by omega⟩
  refine Ex.of okm_504 (by omega) (Nat.le_of_ble_eq_true rfl) ?_
  show Rc (d + 1) 504 (0, [.ref 244, .int x1, .int x2, UU], [], gm M) _
  unfold qod_gainAt at hs
  refine jn_e (P := fun (j : Int32 → Int32 → Int32 → SM → Option (Int64 × SM)) => ∀ (x1_1 : Int32) (x2_2 : Int32) (t3 : Int32) (M4 : SM) (r : Int64) (Mz : SM), j x1_1 x2_2 t3 M4 = some (r, Mz) → Rc (d + 1) 504 (33, [.ref 244, .int x1_1, .int x2_2, UU], [.int t3], gm M4) (some (.long r), gm Mz)) hs ?_ (fun j7 Hj7 hs => ?_)
  · intro x1_1 x2_2 t3 M4 r Mz hs
    try dsimp only at hs
    by_cases h6 : t3 = 0
    · rw [if_pos h6] at hs
      refine Rc.goL mt_504 2 (f2 := (if t3 = 0 then 49 else 38, [.ref 244, .int x1_1, .int x2_2, .int t3], [], gm M4)) (b := true) rfl rfl ?_
      rw [if_pos h6]
      refine Rc.goL mt_504 0 (f2 := (52, [.ref 244, .int x1_1, .int x2_2, .int t3], [.long (-1000000000000 : Int64)], gm M4)) (b := true) rfl rfl ?_
      obtain ⟨e1, e2⟩ := some_p hs; subst e1; subst e2
      exact Rc.ret (v := some (.long (-1000000000000 : Int64))) rfl rfl
    · rw [if_neg h6] at hs
      refine Rc.goL mt_504 2 (f2 := (if t3 = 0 then 49 else 38, [.ref 244, .int x1_1, .int x2_2, .int t3], [], gm M4)) (b := true) rfl rfl ?_
      rw [if_neg h6]
      obtain ⟨hb5, hs⟩ := ck_some hs
      refine Rc.goL mt_504 6 (f2 := (52, [.ref 244, .int x1_1, .int x2_2, .int t3], [.long (M4.2 (247 + (Int32.toNatClampNeg x1_1)) (Int32.toNatClampNeg x2_2))], gm M4)) (b := (ib 10 x1_1 && (av 336 21 (247 + (Int32.toNatClampNeg x1_1)) x2_2 && true))) rfl hb5 ?_
      obtain ⟨e1, e2⟩ := some_p hs; subst e1; subst e2
      exact Rc.ret (v := some (.long (M4.2 (247 + (Int32.toNatClampNeg x1_1)) (Int32.toNatClampNeg x2_2)))) rfl rfl
  refine jn_e (P := fun (j : Int32 → Int32 → SM → Option (Int64 × SM)) => ∀ (x1_8 : Int32) (x2_9 : Int32) (M10 : SM) (r : Int64) (Mz : SM), j x1_8 x2_9 M10 = some (r, Mz) → Rc (d + 1) 504 (32, [.ref 244, .int x1_8, .int x2_9, UU], [], gm M10) (some (.long r), gm Mz)) hs ?_ (fun j11 Hj11 hs => ?_)
  · intro x1_8 x2_9 M10 r Mz hs
    try dsimp only at hs
    refine Rc.goL mt_504 0 (f2 := (33, [.ref 244, .int x1_8, .int x2_9, UU], [.int (0 : Int32)], gm M10)) (b := true) rfl rfl ?_
    refine Rc.less (ls2 := [.ref 244, .int x1_8, .int x2_9, UU]) (by refine ⟨Or.inr rfl, Or.inr rfl, Or.inr rfl, Or.inl rfl, trivial⟩) ?_
    exact Hj7 x1_8 x2_9 (0 : Int32) _ _ _ hs
  by_cases h16 : x1 < 0
  · rw [if_pos h16] at hs
    refine Rc.goL mt_504 1 (f2 := (if x1 < 0 then 32 else 4, [.ref 244, .int x1, .int x2, UU], [], gm M)) (b := true) rfl rfl ?_
    rw [if_pos h16]
    refine Rc.less (ls2 := [.ref 244, .int x1, .int x2, UU]) (by refine ⟨Or.inr rfl, Or.inr rfl, Or.inr rfl, Or.inl rfl, trivial⟩) ?_
    exact Hj11 x1 x2 _ _ _ hs
  · rw [if_neg h16] at hs
    refine Rc.goL mt_504 1 (f2 := (if x1 < 0 then 32 else 4, [.ref 244, .int x1, .int x2, UU], [], gm M)) (b := true) rfl rfl ?_
    rw [if_neg h16]
    by_cases h15 : x1 < (M.1 244 7)
    · rw [if_pos h15] at hs
      refine Rc.goL mt_504 3 (f2 := (if x1 < (M.1 244 7) then 12 else 32, [.ref 244, .int x1, .int x2, UU], [], gm M)) (b := true) rfl rfl ?_
      rw [if_pos h15]
      by_cases h14 : x1 < (10 : Int32)
      · rw [if_pos h14] at hs
        refine Rc.goL mt_504 2 (f2 := (if x1 < (10 : Int32) then 18 else 32, [.ref 244, .int x1, .int x2, UU], [], gm M)) (b := true) rfl rfl ?_
        rw [if_pos h14]
        by_cases h13 : x2 < 0
        · rw [if_pos h13] at hs
          refine Rc.goL mt_504 1 (f2 := (if x2 < 0 then 32 else 22, [.ref 244, .int x1, .int x2, UU], [], gm M)) (b := true) rfl rfl ?_
          rw [if_pos h13]
          refine Rc.less (ls2 := [.ref 244, .int x1, .int x2, UU]) (by refine ⟨Or.inr rfl, Or.inr rfl, Or.inr rfl, Or.inl rfl, trivial⟩) ?_
          exact Hj11 x1 x2 _ _ _ hs
        · rw [if_neg h13] at hs
          refine Rc.goL mt_504 1 (f2 := (if x2 < 0 then 32 else 22, [.ref 244, .int x1, .int x2, UU], [], gm M)) (b := true) rfl rfl ?_
          rw [if_neg h13]
          by_cases h12 : (24 : Int32) < x2
          · rw [if_pos h12] at hs
            refine Rc.goL mt_504 2 (f2 := (if (24 : Int32) < x2 then 32 else 28, [.ref 244, .int x1, .int x2, UU], [], gm M)) (b := true) rfl rfl ?_
            rw [if_pos h12]
            refine Rc.less (ls2 := [.ref 244, .int x1, .int x2, UU]) (by refine ⟨Or.inr rfl, Or.inr rfl, Or.inr rfl, Or.inl rfl, trivial⟩) ?_
            exact Hj11 x1 x2 _ _ _ hs
          · rw [if_neg h12] at hs
            refine Rc.goL mt_504 2 (f2 := (if (24 : Int32) < x2 then 32 else 28, [.ref 244, .int x1, .int x2, UU], [], gm M)) (b := true) rfl rfl ?_
            rw [if_neg h12]
            refine Rc.goL mt_504 1 (f2 := (33, [.ref 244, .int x1, .int x2, UU], [.int (1 : Int32)], gm M)) (b := true) rfl rfl ?_
            refine Rc.less (ls2 := [.ref 244, .int x1, .int x2, UU]) (by refine ⟨Or.inr rfl, Or.inr rfl, Or.inr rfl, Or.inl rfl, trivial⟩) ?_
            exact Hj7 x1 x2 (1 : Int32) _ _ _ hs
      · rw [if_neg h14] at hs
        refine Rc.goL mt_504 2 (f2 := (if x1 < (10 : Int32) then 18 else 32, [.ref 244, .int x1, .int x2, UU], [], gm M)) (b := true) rfl rfl ?_
        rw [if_neg h14]
        refine Rc.less (ls2 := [.ref 244, .int x1, .int x2, UU]) (by refine ⟨Or.inr rfl, Or.inr rfl, Or.inr rfl, Or.inl rfl, trivial⟩) ?_
        exact Hj11 x1 x2 _ _ _ hs
    · rw [if_neg h15] at hs
      refine Rc.goL mt_504 3 (f2 := (if x1 < (M.1 244 7) then 12 else 32, [.ref 244, .int x1, .int x2, UU], [], gm M)) (b := true) rfl rfl ?_
      rw [if_neg h15]
      refine Rc.less (ls2 := [.ref 244, .int x1, .int x2, UU]) (by refine ⟨Or.inr rfl, Or.inr rfl, Or.inr rfl, Or.inl rfl, trivial⟩) ?_
      exact Hj11 x1 x2 _ _ _ hs
def qod_bestAt (x1 : Int32) (x2 : Int32) (M : SM) : Option (Int64 × SM) :=
  jn (fun (x1_1 : Int32) (x2_2 : Int32) (t3 : Int32) (M4 : SM) =>
    if t3 = 0 then
      (some ((-1000000000000 : Int64), M4)) else
      (ck (ib 11 x1_1 && (av 336 21 (258 + (Int32.toNatClampNeg x1_1)) x2_2 && true)) (
        some ((M4.2 (258 + (Int32.toNatClampNeg x1_1)) (Int32.toNatClampNeg x2_2)), M4)))) (fun j7 =>
  jn (fun (x1_8 : Int32) (x2_9 : Int32) (M10 : SM) =>
    j7 x1_8 x2_9 (0 : Int32) M10) (fun j11 =>
  if x1 < 0 then
  (j11 x1 x2 M) else
  (if (M.1 244 7) < x1 then
    (j11 x1 x2 M) else
    (if (10 : Int32) < x1 then
      (j11 x1 x2 M) else
      (if x2 < 0 then
        (j11 x1 x2 M) else
        (if (60 : Int32) < x2 then
          (j11 x1 x2 M) else
          (j7 x1 x2 (1 : Int32) M)))))))
theorem mt_505 : MT 505 K_505 LN_5 := ⟨rfl, rfl, by decide +kernel⟩
theorem okm_505 : OKm 505 := ⟨⟨vE_505, okL_5, by decide +kernel⟩, by decide +kernel, by decide +kernel, by decide +kernel⟩
set_option maxRecDepth 20000 in
theorem qod_bestAt_ok (d : Nat) (hd : 1 ≤ d) {x1 : Int32} {x2 : Int32} {M : SM} {r : Int64} {Mz : SM} (hs : qod_bestAt x1 x2 M = some (r, Mz)) : Ex d 505 [.ref 244, .int x1, .int x2] (gm M) (some (.long r), gm Mz) := by
  obtain ⟨d, rfl⟩ : ∃ d0, d = d0 + 1 := ⟨d - 1, by omega⟩
  refine Ex.of okm_505 (by omega) (Nat.le_of_ble_eq_true rfl) ?_
  show Rc (d + 1) 505 (0, [.ref 244, .int x1, .int x2, UU], [], gm M) _
  unfold qod_bestAt at hs
  refine jn_e (P := fun (j : Int32 → Int32 → Int32 → SM → Option (Int64 × SM)) => ∀ (x1_1 : Int32) (x2_2 : Int32) (t3 : Int32) (M4 : SM) (r : Int64) (Mz : SM), j x1_1 x2_2 t3 M4 = some (r, Mz) → Rc (d + 1) 505 (33, [.ref 244, .int x1_1, .int x2_2, UU], [.int t3], gm M4) (some (.long r), gm Mz)) hs ?_ (fun j7 Hj7 hs => ?_)
  · intro x1_1 x2_2 t3 M4 r Mz hs
    try dsimp only at hs
    by_cases h6 : t3 = 0
    · rw [if_pos h6] at hs
      refine Rc.goL mt_505 2 (f2 := (if t3 = 0 then 49 else 38, [.ref 244, .int x1_1, .int x2_2, .int t3], [], gm M4)) (b := true) rfl rfl ?_
      rw [if_pos h6]
      refine Rc.goL mt_505 0 (f2 := (52, [.ref 244, .int x1_1, .int x2_2, .int t3], [.long (-1000000000000 : Int64)], gm M4)) (b := true) rfl rfl ?_
      obtain ⟨e1, e2⟩ := some_p hs; subst e1; subst e2
      exact Rc.ret (v := some (.long (-1000000000000 : Int64))) rfl rfl
    · rw [if_neg h6] at hs
      refine Rc.goL mt_505 2 (f2 := (if t3 = 0 then 49 else 38, [.ref 244, .int x1_1, .int x2_2, .int t3], [], gm M4)) (b := true) rfl rfl ?_
      rw [if_neg h6]
      obtain ⟨hb5, hs⟩ := ck_some hs
      refine Rc.goL mt_505 6 (f2 := (52, [.ref 244, .int x1_1, .int x2_2, .int t3], [.long (M4.2 (258 + (Int32.toNatClampNeg x1_1)) (Int32.toNatClampNeg x2_2))], gm M4)) (b := (ib 11 x1_1 && (av 336 21 (258 + (Int32.toNatClampNeg x1_1)) x2_2 && true))) rfl hb5 ?_
      obtain ⟨e1, e2⟩ := some_p hs; subst e1; subst e2
      exact Rc.ret (v := some (.long (M4.2 (258 + (Int32.toNatClampNeg x1_1)) (Int32.toNatClampNeg x2_2)))) rfl rfl
  refine jn_e (P := fun (j : Int32 → Int32 → SM → Option (Int64 × SM)) => ∀ (x1_8 : Int32) (x2_9 : Int32) (M10 : SM) (r : Int64) (Mz : SM), j x1_8 x2_9 M10 = some (r, Mz) → Rc (d + 1) 505 (32, [.ref 244, .int x1_8, .int x2_9, UU], [], gm M10) (some (.long r), gm Mz)) hs ?_ (fun j11 Hj11 hs => ?_)
  · intro x1_8 x2_9 M10 r Mz hs
    try dsimp only at hs
    refine Rc.goL mt_505 0 (f2 := (33, [.ref 244, .int x1_8, .int x2_9, UU], [.int (0 : Int32)], gm M10)) (b := true) rfl rfl ?_
    refine Rc.less (ls2 := [.ref 244, .int x1_8, .int x2_9, UU]) (by refine ⟨Or.inr rfl, Or.inr rfl, Or.inr rfl, Or.inl rfl, trivial⟩) ?_
    exact Hj7 x1_8 x2_9 (0 : Int32) _ _ _ hs
  by_cases h16 : x1 < 0
  · rw [if_pos h16] at hs
    refine Rc.goL mt_505 1 (f2 := (if x1 < 0 then 32 else 4, [.ref 244, .int x1, .int x2, UU], [], gm M)) (b := true) rfl rfl ?_
    rw [if_pos h16]
    refine Rc.less (ls2 := [.ref 244, .int x1, .int x2, UU]) (by refine ⟨Or.inr rfl, Or.inr rfl, Or.inr rfl, Or.inl rfl, trivial⟩) ?_
    exact Hj11 x1 x2 _ _ _ hs
  · rw [if_neg h16] at hs
    refine Rc.goL mt_505 1 (f2 := (if x1 < 0 then 32 else 4, [.ref 244, .int x1, .int x2, UU], [], gm M)) (b := true) rfl rfl ?_
    rw [if_neg h16]
    by_cases h15 : (M.1 244 7) < x1
    · rw [if_pos h15] at hs
      refine Rc.goL mt_505 3 (f2 := (if (M.1 244 7) < x1 then 32 else 12, [.ref 244, .int x1, .int x2, UU], [], gm M)) (b := true) rfl rfl ?_
      rw [if_pos h15]
      refine Rc.less (ls2 := [.ref 244, .int x1, .int x2, UU]) (by refine ⟨Or.inr rfl, Or.inr rfl, Or.inr rfl, Or.inl rfl, trivial⟩) ?_
      exact Hj11 x1 x2 _ _ _ hs
    · rw [if_neg h15] at hs
      refine Rc.goL mt_505 3 (f2 := (if (M.1 244 7) < x1 then 32 else 12, [.ref 244, .int x1, .int x2, UU], [], gm M)) (b := true) rfl rfl ?_
      rw [if_neg h15]
      by_cases h14 : (10 : Int32) < x1
      · rw [if_pos h14] at hs
        refine Rc.goL mt_505 2 (f2 := (if (10 : Int32) < x1 then 32 else 18, [.ref 244, .int x1, .int x2, UU], [], gm M)) (b := true) rfl rfl ?_
        rw [if_pos h14]
        refine Rc.less (ls2 := [.ref 244, .int x1, .int x2, UU]) (by refine ⟨Or.inr rfl, Or.inr rfl, Or.inr rfl, Or.inl rfl, trivial⟩) ?_
        exact Hj11 x1 x2 _ _ _ hs
      · rw [if_neg h14] at hs
        refine Rc.goL mt_505 2 (f2 := (if (10 : Int32) < x1 then 32 else 18, [.ref 244, .int x1, .int x2, UU], [], gm M)) (b := true) rfl rfl ?_
        rw [if_neg h14]
        by_cases h13 : x2 < 0
        · rw [if_pos h13] at hs
          refine Rc.goL mt_505 1 (f2 := (if x2 < 0 then 32 else 22, [.ref 244, .int x1, .int x2, UU], [], gm M)) (b := true) rfl rfl ?_
          rw [if_pos h13]
          refine Rc.less (ls2 := [.ref 244, .int x1, .int x2, UU]) (by refine ⟨Or.inr rfl, Or.inr rfl, Or.inr rfl, Or.inl rfl, trivial⟩) ?_
          exact Hj11 x1 x2 _ _ _ hs
        · rw [if_neg h13] at hs
          refine Rc.goL mt_505 1 (f2 := (if x2 < 0 then 32 else 22, [.ref 244, .int x1, .int x2, UU], [], gm M)) (b := true) rfl rfl ?_
          rw [if_neg h13]
          by_cases h12 : (60 : Int32) < x2
          · rw [if_pos h12] at hs
            refine Rc.goL mt_505 2 (f2 := (if (60 : Int32) < x2 then 32 else 28, [.ref 244, .int x1, .int x2, UU], [], gm M)) (b := true) rfl rfl ?_
            rw [if_pos h12]
            refine Rc.less (ls2 := [.ref 244, .int x1, .int x2, UU]) (by refine ⟨Or.inr rfl, Or.inr rfl, Or.inr rfl, Or.inl rfl, trivial⟩) ?_
            exact Hj11 x1 x2 _ _ _ hs
          · rw [if_neg h12] at hs
            refine Rc.goL mt_505 2 (f2 := (if (60 : Int32) < x2 then 32 else 28, [.ref 244, .int x1, .int x2, UU], [], gm M)) (b := true) rfl rfl ?_
            rw [if_neg h12]
            refine Rc.goL mt_505 1 (f2 := (33, [.ref 244, .int x1, .int x2, UU], [.int (1 : Int32)], gm M)) (b := true) rfl rfl ?_
            refine Rc.less (ls2 := [.ref 244, .int x1, .int x2, UU]) (by refine ⟨Or.inr rfl, Or.inr rfl, Or.inr rfl, Or.inl rfl, trivial⟩) ?_
            exact Hj7 x1 x2 (1 : Int32) _ _ _ hs
def qod_gainWith (x1 : Int32) (x2 : Int32) (x3 : Int32) (M : SM) : Option (Int64 × SM) :=
  ob (qod_bestAt (x1 + (1 : Int32)) (x2 - x3) M) (fun r1 M2 =>
  if (lg_cmp r1 (-1000000000000 : Int64)) = 0 then
  (some ((-1000000000000 : Int64), M2)) else
  (ob (qod_gainAt x1 x3 M2) (fun r4 M5 =>
    some ((r4 + r1), M5))))
theorem mt_506 : MT 506 K_506 LN_5 := ⟨rfl, rfl, by decide +kernel⟩
theorem okm_506 : OKm 506 := ⟨⟨vE_506, okL_5, by decide +kernel⟩, by decide +kernel, by decide +kernel, by decide +kernel⟩
set_option maxRecDepth 20000 in
theorem qod_gainWith_ok (d : Nat) (hd : 2 ≤ d) {x1 : Int32} {x2 : Int32} {x3 : Int32} {M : SM} {r : Int64} {Mz : SM} (hs : qod_gainWith x1 x2 x3 M = some (r, Mz)) : Ex d 506 [.ref 244, .int x1, .int x2, .int x3] (gm M) (some (.long r), gm Mz) := by
  obtain ⟨d, rfl⟩ : ∃ d0, d = d0 + 1 := ⟨d - 1, by omega⟩
  refine Ex.of okm_506 (by omega) (Nat.le_of_ble_eq_true rfl) ?_
  show Rc (d + 1) 506 (0, [.ref 244, .int x1, .int x2, .int x3, UU, UU], [], gm M) _
  unfold qod_gainWith at hs
  refine Rc.goL mt_506 6 (f2 := (7, [.ref 244, .int x1, .int x2, .int x3, UU, UU], [.int (x2 - x3), .int (x1 + (1 : Int32)), .ref 244], gm M)) (b := true) rfl rfl ?_
  obtain ⟨r1, M2, he3, hs⟩ := ob_some hs
  refine Rc.callV (i := 38) (mid' := 505) (av := [.int (x1 + (1 : Int32)), .int (x2 - x3)]) (rest := []) (v := some (.long r1)) (M1 := gm M2) (a := 244) rfl rfl rfl cw_505 rfl (Nat.le_of_ble_eq_true rfl) rfl (Nat.le_of_ble_eq_true rfl) (qod_bestAt_ok _ (by omega) he3) ?_
  by_cases h7 : (lg_cmp r1 (-1000000000000 : Int64)) = 0
  · rw [if_pos h7] at hs
    refine Rc.goL mt_506 4 (f2 := (if (lg_cmp r1 (-1000000000000 : Int64)) = 0 then 21 else 27, [.ref 244, .int x1, .int x2, .int x3, .long r1, UU], [], gm M2)) (b := true) rfl rfl ?_
    rw [if_pos h7]
    refine Rc.goL mt_506 1 (f2 := (36, [.ref 244, .int x1, .int x2, .int x3, .long r1, UU], [.long (-1000000000000 : Int64)], gm M2)) (b := true) rfl rfl ?_
    obtain ⟨e1, e2⟩ := some_p hs; subst e1; subst e2
    exact Rc.ret (v := some (.long (-1000000000000 : Int64))) rfl rfl
  · rw [if_neg h7] at hs
    refine Rc.goL mt_506 4 (f2 := (if (lg_cmp r1 (-1000000000000 : Int64)) = 0 then 21 else 27, [.ref 244, .int x1, .int x2, .int x3, .long r1, UU], [], gm M2)) (b := true) rfl rfl ?_
    rw [if_neg h7]
    refine Rc.goL mt_506 2 (f2 := (30, [.ref 244, .int x1, .int x2, .int x3, .long r1, UU], [.int x3, .int x1, .ref 244], gm M2)) (b := true) rfl rfl ?_
    obtain ⟨r4, M5, he6, hs⟩ := ob_some hs
    refine Rc.callV (i := 42) (mid' := 504) (av := [.int x1, .int x3]) (rest := []) (v := some (.long r4)) (M1 := gm M5) (a := 244) rfl rfl rfl cw_504 rfl (Nat.le_of_ble_eq_true rfl) rfl (Nat.le_of_ble_eq_true rfl) (qod_gainAt_ok _ (by omega) he6) ?_
    refine Rc.goL mt_506 1 (f2 := (36, [.ref 244, .int x1, .int x2, .int x3, .long r1, UU], [.long (r4 + r1)], gm M5)) (b := true) rfl rfl ?_
    obtain ⟨e1, e2⟩ := some_p hs; subst e1; subst e2
    exact Rc.ret (v := some (.long (r4 + r1))) rfl rfl
def qod_fillBest_L30 (k60 : Int32 → Int32 → SM → Option (Unit × SM)) : Nat → Int32 → Int32 → Int32 → SM → Option (Unit × SM)
  | 0, _, _, _, _ => none
  | n + 1, x1, x2, x3, M =>
    if x2 < x3 then
    (k60 x1 x2 M) else
    (ck (ib 11 x1 && true) (
      if x3 = 0 then
      (ck (av 336 21 (258 + (Int32.toNatClampNeg x1)) x3 && true) (
        qod_fillBest_L30 k60 n x1 x2 (x3 + (1 : Int32)) (wL M (258 + (Int32.toNatClampNeg x1)) (Int32.toNatClampNeg x3) (0 : Int64)))) else
      (ck (av 336 21 (258 + (Int32.toNatClampNeg x1)) x3 && true) (
        qod_fillBest_L30 k60 n x1 x2 (x3 + (1 : Int32)) (wL M (258 + (Int32.toNatClampNeg x1)) (Int32.toNatClampNeg x3) (-1000000000000 : Int64))))))
def qod_fillBest_L85 (k121 : Int32 → Int32 → Int32 → Int64 → SM → Option (Unit × SM)) : Nat → Int32 → Int32 → Int32 → Int64 → Int32 → SM → Option (Unit × SM)
  | 0, _, _, _, _, _, _ => none
  | n + 1, x2, x3, x4, x5, x7, M =>
    if (24 : Int32) < x7 then
    (k121 x2 x3 x4 x5 M) else
    (if x4 < x7 then
      (k121 x2 x3 x4 x5 M) else
      (ob (qod_gainWith x3 x4 x7 M) (fun r9 M10 =>
        qod_fillBest_L85 k121 n x2 x3 x4 (lmx x5 r9) (x7 + (1 : Int32)) M10)))
def qod_fillBest_L71 (k138 : Int32 → Int32 → SM → Option (Unit × SM)) : Nat → Int32 → Int32 → Int32 → SM → Option (Unit × SM)
  | 0, _, _, _, _ => none
  | n + 1, x2, x3, x4, M =>
    if x2 < x4 then
    (k138 x2 x3 M) else
    (qod_fillBest_L85 (fun y2_14 y3_15 y4_16 y5_17 M18 =>
      ck (ib 11 y3_15 && (av 336 21 (258 + (Int32.toNatClampNeg y3_15)) y4_16 && true)) (
        qod_fillBest_L71 k138 n y2_14 y3_15 (y4_16 + (1 : Int32)) (wL M18 (258 + (Int32.toNatClampNeg y3_15)) (Int32.toNatClampNeg y4_16) y5_17))) FU x2 x3 x4 (-1000000000000 : Int64) (0 : Int32) M)
def qod_fillBest_L64 : Nat → Int32 → Int32 → SM → Option (Unit × SM)
  | 0, _, _, _ => none
  | n + 1, x2, x3, M =>
    if x3 < 0 then
    (some ((), M)) else
    (qod_fillBest_L71 (fun y2_21 y3_22 M23 =>
      qod_fillBest_L64 n y2_21 (y3_22 + (-1 : Int32)) M23) FU x2 x3 (0 : Int32) M)
def qod_fillBest (M : SM) : Option (Unit × SM) :=
  qod_fillBest_L30 (fun y1_6 y2_7 M8 =>
  qod_fillBest_L64 FU y2_7 (y1_6 - (1 : Int32)) M8) FU (imx (0 : Int32) (imn (M.1 244 7) (10 : Int32))) (imx (0 : Int32) (imn (M.1 244 3) (60 : Int32))) (0 : Int32) M
theorem mt_507 : MT 507 K_507 LN_5 := ⟨rfl, rfl, by decide +kernel⟩
theorem okm_507 : OKm 507 := ⟨⟨vE_507, okL_5, by decide +kernel⟩, by decide +kernel, by decide +kernel, by decide +kernel⟩
set_option maxRecDepth 20000 in
theorem qod_fillBest_L30_ok (d : Nat) (hd : 3 ≤ d + 1) (k60 : Int32 → Int32 → SM → Option (Unit × SM)) (hk60 : ∀ (y1 : Int32) (y2 : Int32) (M : SM) (r : Unit) (Mz : SM), k60 y1 y2 M = some (r, Mz) → Rc (d + 1) 507 (60, [.ref 244, .int y1, .int y2, UU, UU, UU, UU, UU], [], gm M) (none, gm Mz)) : ∀ (n : Nat) (x1 : Int32) (x2 : Int32) (x3 : Int32) (M : SM) (r : Unit) (Mz : SM), qod_fillBest_L30 k60 n x1 x2 x3 M = some (r, Mz) → Rc (d + 1) 507 (30, [.ref 244, .int x1, .int x2, .int x3, UU, UU, UU, UU], [], gm M) (none, gm Mz) := by
  intro n
  induction n with
  | zero => intro x1 x2 x3 M r Mz hs; cases hs
  | succ n ih =>
    intro x1 x2 x3 M r Mz hs
    rw [qod_fillBest_L30] at hs
    by_cases h5 : x2 < x3
    · rw [if_pos h5] at hs
      refine Rc.goL mt_507 2 (f2 := (if x2 < x3 then 60 else 35, [.ref 244, .int x1, .int x2, .int x3, UU, UU, UU, UU], [], gm M)) (b := true) rfl rfl ?_
      rw [if_pos h5]
      refine Rc.less (ls2 := [.ref 244, .int x1, .int x2, UU, UU, UU, UU, UU]) (by refine ⟨Or.inr rfl, Or.inr rfl, Or.inr rfl, Or.inl rfl, Or.inl rfl, Or.inl rfl, Or.inl rfl, Or.inl rfl, trivial⟩) ?_
      exact hk60 x1 x2 _ _ _ hs
    · rw [if_neg h5] at hs
      refine Rc.goL mt_507 2 (f2 := (if x2 < x3 then 60 else 35, [.ref 244, .int x1, .int x2, .int x3, UU, UU, UU, UU], [], gm M)) (b := true) rfl rfl ?_
      rw [if_neg h5]
      obtain ⟨hb1, hs⟩ := ck_some hs
      by_cases h4 : x3 = 0
      · rw [if_pos h4] at hs
        refine Rc.goL mt_507 6 (f2 := (if x3 = 0 then 46 else 50, [.ref 244, .int x1, .int x2, .int x3, UU, UU, UU, UU], [.int x3, .ref (258 + (Int32.toNatClampNeg x1))], gm M)) (b := (ib 11 x1 && true)) rfl hb1 ?_
        rw [if_pos h4]
        refine Rc.goL mt_507 1 (f2 := (53, [.ref 244, .int x1, .int x2, .int x3, UU, UU, UU, UU], [.long (0 : Int64), .int x3, .ref (258 + (Int32.toNatClampNeg x1))], gm M)) (b := true) rfl rfl ?_
        obtain ⟨hb2, hs⟩ := ck_some hs
        obtain ⟨hb2_0, hb2⟩ := and_t hb2
        refine Rc.goL mt_507 0 (f2 := (54, [.ref 244, .int x1, .int x2, .int x3, UU, UU, UU, UU], [], gm (wL M (258 + (Int32.toNatClampNeg x1)) (Int32.toNatClampNeg x3) (0 : Int64)))) (b := (av 336 21 (258 + (Int32.toNatClampNeg x1)) x3 && true)) rfl (and_i hb2_0 rfl) ?_
        refine Rc.goL mt_507 1 (f2 := (30, [.ref 244, .int x1, .int x2, .int (x3 + (1 : Int32)), UU, UU, UU, UU], [], gm (wL M (258 + (Int32.toNatClampNeg x1)) (Int32.toNatClampNeg x3) (0 : Int64)))) (b := true) rfl rfl ?_
        refine Rc.less (ls2 := [.ref 244, .int x1, .int x2, .int (x3 + (1 : Int32)), UU, UU, UU, UU]) (by refine ⟨Or.inr rfl, Or.inr rfl, Or.inr rfl, Or.inr rfl, Or.inl rfl, Or.inl rfl, Or.inl rfl, Or.inl rfl, trivial⟩) ?_
        exact ih x1 x2 (x3 + (1 : Int32)) _ _ _ hs
      · rw [if_neg h4] at hs
        refine Rc.goL mt_507 6 (f2 := (if x3 = 0 then 46 else 50, [.ref 244, .int x1, .int x2, .int x3, UU, UU, UU, UU], [.int x3, .ref (258 + (Int32.toNatClampNeg x1))], gm M)) (b := (ib 11 x1 && true)) rfl hb1 ?_
        rw [if_neg h4]
        refine Rc.goL mt_507 0 (f2 := (53, [.ref 244, .int x1, .int x2, .int x3, UU, UU, UU, UU], [.long (-1000000000000 : Int64), .int x3, .ref (258 + (Int32.toNatClampNeg x1))], gm M)) (b := true) rfl rfl ?_
        obtain ⟨hb3, hs⟩ := ck_some hs
        obtain ⟨hb3_0, hb3⟩ := and_t hb3
        refine Rc.goL mt_507 0 (f2 := (54, [.ref 244, .int x1, .int x2, .int x3, UU, UU, UU, UU], [], gm (wL M (258 + (Int32.toNatClampNeg x1)) (Int32.toNatClampNeg x3) (-1000000000000 : Int64)))) (b := (av 336 21 (258 + (Int32.toNatClampNeg x1)) x3 && true)) rfl (and_i hb3_0 rfl) ?_
        refine Rc.goL mt_507 1 (f2 := (30, [.ref 244, .int x1, .int x2, .int (x3 + (1 : Int32)), UU, UU, UU, UU], [], gm (wL M (258 + (Int32.toNatClampNeg x1)) (Int32.toNatClampNeg x3) (-1000000000000 : Int64)))) (b := true) rfl rfl ?_
        refine Rc.less (ls2 := [.ref 244, .int x1, .int x2, .int (x3 + (1 : Int32)), UU, UU, UU, UU]) (by refine ⟨Or.inr rfl, Or.inr rfl, Or.inr rfl, Or.inr rfl, Or.inl rfl, Or.inl rfl, Or.inl rfl, Or.inl rfl, trivial⟩) ?_
        exact ih x1 x2 (x3 + (1 : Int32)) _ _ _ hs
set_option maxRecDepth 20000 in
theorem qod_fillBest_L85_ok (d : Nat) (hd : 3 ≤ d + 1) (k121 : Int32 → Int32 → Int32 → Int64 → SM → Option (Unit × SM)) (hk121 : ∀ (y2 : Int32) (y3 : Int32) (y4 : Int32) (y5 : Int64) (M : SM) (r : Unit) (Mz : SM), k121 y2 y3 y4 y5 M = some (r, Mz) → Rc (d + 1) 507 (121, [.ref 244, UU, .int y2, .int y3, .int y4, .long y5, UU, UU], [], gm M) (none, gm Mz)) : ∀ (n : Nat) (x2 : Int32) (x3 : Int32) (x4 : Int32) (x5 : Int64) (x7 : Int32) (M : SM) (r : Unit) (Mz : SM), qod_fillBest_L85 k121 n x2 x3 x4 x5 x7 M = some (r, Mz) → Rc (d + 1) 507 (85, [.ref 244, UU, .int x2, .int x3, .int x4, .long x5, UU, .int x7], [], gm M) (none, gm Mz) := by
  intro n
  induction n with
  | zero => intro x2 x3 x4 x5 x7 M r Mz hs; cases hs
  | succ n ih =>
    intro x2 x3 x4 x5 x7 M r Mz hs
    rw [qod_fillBest_L85] at hs
    by_cases h13 : (24 : Int32) < x7
    · rw [if_pos h13] at hs
      refine Rc.goL mt_507 2 (f2 := (if (24 : Int32) < x7 then 121 else 92, [.ref 244, UU, .int x2, .int x3, .int x4, .long x5, UU, .int x7], [], gm M)) (b := true) rfl rfl ?_
      rw [if_pos h13]
      refine Rc.less (ls2 := [.ref 244, UU, .int x2, .int x3, .int x4, .long x5, UU, UU]) (by refine ⟨Or.inr rfl, Or.inl rfl, Or.inr rfl, Or.inr rfl, Or.inr rfl, Or.inr rfl, Or.inl rfl, Or.inl rfl, trivial⟩) ?_
      exact hk121 x2 x3 x4 x5 _ _ _ hs
    · rw [if_neg h13] at hs
      refine Rc.goL mt_507 2 (f2 := (if (24 : Int32) < x7 then 121 else 92, [.ref 244, UU, .int x2, .int x3, .int x4, .long x5, UU, .int x7], [], gm M)) (b := true) rfl rfl ?_
      rw [if_neg h13]
      by_cases h12 : x4 < x7
      · rw [if_pos h12] at hs
        refine Rc.goL mt_507 2 (f2 := (if x4 < x7 then 121 else 99, [.ref 244, UU, .int x2, .int x3, .int x4, .long x5, UU, .int x7], [], gm M)) (b := true) rfl rfl ?_
        rw [if_pos h12]
        refine Rc.less (ls2 := [.ref 244, UU, .int x2, .int x3, .int x4, .long x5, UU, UU]) (by refine ⟨Or.inr rfl, Or.inl rfl, Or.inr rfl, Or.inr rfl, Or.inr rfl, Or.inr rfl, Or.inl rfl, Or.inl rfl, trivial⟩) ?_
        exact hk121 x2 x3 x4 x5 _ _ _ hs
      · rw [if_neg h12] at hs
        refine Rc.goL mt_507 2 (f2 := (if x4 < x7 then 121 else 99, [.ref 244, UU, .int x2, .int x3, .int x4, .long x5, UU, .int x7], [], gm M)) (b := true) rfl rfl ?_
        rw [if_neg h12]
        refine Rc.goL mt_507 4 (f2 := (107, [.ref 244, UU, .int x2, .int x3, .int x4, .long x5, UU, .int x7], [.int x7, .int x4, .int x3, .ref 244, .long x5], gm M)) (b := true) rfl rfl ?_
        obtain ⟨r9, M10, he11, hs⟩ := ob_some hs
        refine Rc.callV (i := 57) (mid' := 506) (av := [.int x3, .int x4, .int x7]) (rest := [.long x5]) (v := some (.long r9)) (M1 := gm M10) (a := 244) rfl rfl rfl cw_506 rfl (Nat.le_of_ble_eq_true rfl) rfl (Nat.le_of_ble_eq_true rfl) (qod_gainWith_ok _ (by omega) he11) ?_
        refine Rc.goL mt_507 3 (f2 := (85, [.ref 244, UU, .int x2, .int x3, .int x4, .long (lmx x5 r9), UU, .int (x7 + (1 : Int32))], [], gm M10)) (b := true) rfl rfl ?_
        refine Rc.less (ls2 := [.ref 244, UU, .int x2, .int x3, .int x4, .long (lmx x5 r9), UU, .int (x7 + (1 : Int32))]) (by refine ⟨Or.inr rfl, Or.inl rfl, Or.inr rfl, Or.inr rfl, Or.inr rfl, Or.inr rfl, Or.inl rfl, Or.inr rfl, trivial⟩) ?_
        exact ih x2 x3 x4 (lmx x5 r9) (x7 + (1 : Int32)) _ _ _ hs
set_option maxRecDepth 20000 in
theorem qod_fillBest_L71_ok (d : Nat) (hd : 3 ≤ d + 1) (k138 : Int32 → Int32 → SM → Option (Unit × SM)) (hk138 : ∀ (y2 : Int32) (y3 : Int32) (M : SM) (r : Unit) (Mz : SM), k138 y2 y3 M = some (r, Mz) → Rc (d + 1) 507 (138, [.ref 244, UU, .int y2, .int y3, UU, UU, UU, UU], [], gm M) (none, gm Mz)) : ∀ (n : Nat) (x2 : Int32) (x3 : Int32) (x4 : Int32) (M : SM) (r : Unit) (Mz : SM), qod_fillBest_L71 k138 n x2 x3 x4 M = some (r, Mz) → Rc (d + 1) 507 (71, [.ref 244, UU, .int x2, .int x3, .int x4, UU, UU, UU], [], gm M) (none, gm Mz) := by
  intro n
  induction n with
  | zero => intro x2 x3 x4 M r Mz hs; cases hs
  | succ n ih =>
    intro x2 x3 x4 M r Mz hs
    rw [qod_fillBest_L71] at hs
    by_cases h20 : x2 < x4
    · rw [if_pos h20] at hs
      refine Rc.goL mt_507 2 (f2 := (if x2 < x4 then 138 else 77, [.ref 244, UU, .int x2, .int x3, .int x4, UU, UU, UU], [], gm M)) (b := true) rfl rfl ?_
      rw [if_pos h20]
      refine Rc.less (ls2 := [.ref 244, UU, .int x2, .int x3, UU, UU, UU, UU]) (by refine ⟨Or.inr rfl, Or.inl rfl, Or.inr rfl, Or.inr rfl, Or.inl rfl, Or.inl rfl, Or.inl rfl, Or.inl rfl, trivial⟩) ?_
      exact hk138 x2 x3 _ _ _ hs
    · rw [if_neg h20] at hs
      refine Rc.goL mt_507 2 (f2 := (if x2 < x4 then 138 else 77, [.ref 244, UU, .int x2, .int x3, .int x4, UU, UU, UU], [], gm M)) (b := true) rfl rfl ?_
      rw [if_neg h20]
      refine Rc.goL mt_507 3 (f2 := (85, [.ref 244, UU, .int x2, .int x3, .int x4, .long (-1000000000000 : Int64), UU, .int (0 : Int32)], [], gm M)) (b := true) rfl rfl ?_
      refine Rc.less (ls2 := [.ref 244, UU, .int x2, .int x3, .int x4, .long (-1000000000000 : Int64), UU, .int (0 : Int32)]) (by refine ⟨Or.inr rfl, Or.inl rfl, Or.inr rfl, Or.inr rfl, Or.inr rfl, Or.inr rfl, Or.inl rfl, Or.inr rfl, trivial⟩) ?_
      refine qod_fillBest_L85_ok d hd _ (fun y2_14 y3_15 y4_16 y5_17 M18 r Mz hs => ?_) _ x2 x3 x4 (-1000000000000 : Int64) (0 : Int32) _ _ _ hs
      · obtain ⟨hb19, hs⟩ := ck_some hs
        obtain ⟨hb19_0, hb19⟩ := and_t hb19
        obtain ⟨hb19_1, hb19⟩ := and_t hb19
        refine Rc.goL mt_507 6 (f2 := (132, [.ref 244, UU, .int y2_14, .int y3_15, .int y4_16, .long y5_17, UU, UU], [], gm (wL M18 (258 + (Int32.toNatClampNeg y3_15)) (Int32.toNatClampNeg y4_16) y5_17))) (b := (ib 11 y3_15 && (av 336 21 (258 + (Int32.toNatClampNeg y3_15)) y4_16 && true))) rfl (and_i hb19_0 (and_i hb19_1 rfl)) ?_
        refine Rc.goL mt_507 1 (f2 := (71, [.ref 244, UU, .int y2_14, .int y3_15, .int (y4_16 + (1 : Int32)), .long y5_17, UU, UU], [], gm (wL M18 (258 + (Int32.toNatClampNeg y3_15)) (Int32.toNatClampNeg y4_16) y5_17))) (b := true) rfl rfl ?_
        refine Rc.less (ls2 := [.ref 244, UU, .int y2_14, .int y3_15, .int (y4_16 + (1 : Int32)), UU, UU, UU]) (by refine ⟨Or.inr rfl, Or.inl rfl, Or.inr rfl, Or.inr rfl, Or.inr rfl, Or.inl rfl, Or.inl rfl, Or.inl rfl, trivial⟩) ?_
        exact ih y2_14 y3_15 (y4_16 + (1 : Int32)) _ _ _ hs
set_option maxRecDepth 20000 in
theorem qod_fillBest_L64_ok (d : Nat) (hd : 3 ≤ d + 1) : ∀ (n : Nat) (x2 : Int32) (x3 : Int32) (M : SM) (r : Unit) (Mz : SM), qod_fillBest_L64 n x2 x3 M = some (r, Mz) → Rc (d + 1) 507 (64, [.ref 244, UU, .int x2, .int x3, UU, UU, UU, UU], [], gm M) (none, gm Mz) := by
  intro n
  induction n with
  | zero => intro x2 x3 M r Mz hs; cases hs
  | succ n ih =>
    intro x2 x3 M r Mz hs
    rw [qod_fillBest_L64] at hs
    by_cases h24 : x3 < 0
    · rw [if_pos h24] at hs
      refine Rc.goL mt_507 1 (f2 := (if x3 < 0 then 144 else 68, [.ref 244, UU, .int x2, .int x3, UU, UU, UU, UU], [], gm M)) (b := true) rfl rfl ?_
      rw [if_pos h24]
      obtain ⟨e1, e2⟩ := some_p hs; subst e1; subst e2
      exact Rc.ret (v := none) rfl rfl
    · rw [if_neg h24] at hs
      refine Rc.goL mt_507 1 (f2 := (if x3 < 0 then 144 else 68, [.ref 244, UU, .int x2, .int x3, UU, UU, UU, UU], [], gm M)) (b := true) rfl rfl ?_
      rw [if_neg h24]
      refine Rc.goL mt_507 1 (f2 := (71, [.ref 244, UU, .int x2, .int x3, .int (0 : Int32), UU, UU, UU], [], gm M)) (b := true) rfl rfl ?_
      refine Rc.less (ls2 := [.ref 244, UU, .int x2, .int x3, .int (0 : Int32), UU, UU, UU]) (by refine ⟨Or.inr rfl, Or.inl rfl, Or.inr rfl, Or.inr rfl, Or.inr rfl, Or.inl rfl, Or.inl rfl, Or.inl rfl, trivial⟩) ?_
      refine qod_fillBest_L71_ok d hd _ (fun y2_21 y3_22 M23 r Mz hs => ?_) _ x2 x3 (0 : Int32) _ _ _ hs
      · refine Rc.goL mt_507 1 (f2 := (64, [.ref 244, UU, .int y2_21, .int (y3_22 + (-1 : Int32)), UU, UU, UU, UU], [], gm M23)) (b := true) rfl rfl ?_
        refine Rc.less (ls2 := [.ref 244, UU, .int y2_21, .int (y3_22 + (-1 : Int32)), UU, UU, UU, UU]) (by refine ⟨Or.inr rfl, Or.inl rfl, Or.inr rfl, Or.inr rfl, Or.inl rfl, Or.inl rfl, Or.inl rfl, Or.inl rfl, trivial⟩) ?_
        exact ih y2_21 (y3_22 + (-1 : Int32)) _ _ _ hs
set_option maxRecDepth 20000 in
theorem qod_fillBest_ok (d : Nat) (hd : 3 ≤ d) {M : SM} {r : Unit} {Mz : SM} (hs : qod_fillBest M = some (r, Mz)) : Ex d 507 [.ref 244] (gm M) (none, gm Mz) := by
  obtain ⟨d, rfl⟩ : ∃ d0, d = d0 + 1 := ⟨d - 1, by omega⟩
  refine Ex.of okm_507 (by omega) (Nat.le_of_ble_eq_true rfl) ?_
  show Rc (d + 1) 507 (0, [.ref 244, UU, UU, UU, UU, UU, UU, UU], [], gm M) _
  unfold qod_fillBest at hs
  refine Rc.goL mt_507 6 (f2 := (14, [.ref 244, .int (imx (0 : Int32) (imn (M.1 244 7) (10 : Int32))), UU, UU, UU, UU, UU, UU], [], gm M)) (b := true) rfl rfl ?_
  refine Rc.goL mt_507 6 (f2 := (28, [.ref 244, .int (imx (0 : Int32) (imn (M.1 244 7) (10 : Int32))), .int (imx (0 : Int32) (imn (M.1 244 3) (60 : Int32))), UU, UU, UU, UU, UU], [], gm M)) (b := true) rfl rfl ?_
  refine Rc.goL mt_507 1 (f2 := (30, [.ref 244, .int (imx (0 : Int32) (imn (M.1 244 7) (10 : Int32))), .int (imx (0 : Int32) (imn (M.1 244 3) (60 : Int32))), .int (0 : Int32), UU, UU, UU, UU], [], gm M)) (b := true) rfl rfl ?_
  refine Rc.less (ls2 := [.ref 244, .int (imx (0 : Int32) (imn (M.1 244 7) (10 : Int32))), .int (imx (0 : Int32) (imn (M.1 244 3) (60 : Int32))), .int (0 : Int32), UU, UU, UU, UU]) (by refine ⟨Or.inr rfl, Or.inr rfl, Or.inr rfl, Or.inr rfl, Or.inl rfl, Or.inl rfl, Or.inl rfl, Or.inl rfl, trivial⟩) ?_
  refine qod_fillBest_L30_ok d hd _ (fun y1_6 y2_7 M8 r Mz hs => ?_) _ (imx (0 : Int32) (imn (M.1 244 7) (10 : Int32))) (imx (0 : Int32) (imn (M.1 244 3) (60 : Int32))) (0 : Int32) _ _ _ hs
  · refine Rc.goL mt_507 3 (f2 := (64, [.ref 244, .int y1_6, .int y2_7, .int (y1_6 - (1 : Int32)), UU, UU, UU, UU], [], gm M8)) (b := true) rfl rfl ?_
    refine Rc.less (ls2 := [.ref 244, UU, .int y2_7, .int (y1_6 - (1 : Int32)), UU, UU, UU, UU]) (by refine ⟨Or.inr rfl, Or.inl rfl, Or.inr rfl, Or.inr rfl, Or.inl rfl, Or.inl rfl, Or.inl rfl, Or.inl rfl, trivial⟩) ?_
    exact qod_fillBest_L64_ok d hd _ y2_7 (y1_6 - (1 : Int32)) _ _ _ hs
