/-! the law from its first instruction on -/
/-- the ints at the start: the script, and the one field that starts at -1 -/
def iS (len : Int32) (sc : Nat → Int32) : MI := fun c i => if c = 9998 then len else if c = 9999 then sc i else if K0 c = 7 ∧ i = 1 then -1 else 0
def lS : ML := fun _ _ => 0
def rS : MR := fun _ _ => none
theorem fmS (len : Int32) (sc : Nat → Int32) : FM 0 rS (iS len sc) lS :=
  ⟨by decide, fun _ _ _ => rfl, fun c _ hc i => by unfold iS; rw [if_neg (by omega), if_neg (by omega)], fun _ _ _ _ => rfl⟩
/-- both memories when all is made -/
def mS (len : Int32) (sc : Nat → Int32) : SM := (in_1200 (in_1100 (iS len sc)), lS)
set_option maxRecDepth 20000 in
theorem lw_go {d : Nat} (hd : 104 ≤ d + 1) {len : Int32} {sc : Nat → Int32} {r : Int32} {Mz : SM} (hs : qlw_law_L18 FU 0 (mS len sc) = some (r, Mz)) : Rc (d + 1) 1400 (0, [.retAddr 1, UU, UU, UU], [], (0, rS, iS len sc, lS)) (some (.int r), gm Mz) := by
  have hF := fmS len sc
  refine Rc.goL mt_1400 0 (f2 := (3, [.retAddr 1, UU, UU, UU], [.ref 0], nw (0, rS, iS len sc, lS))) (b := ((Nat.beq (7 : Nat) 7 && Nat.beq (K0 0) 11 && Nat.beq (Z0 0) (nf 11)) && true)) rfl (by decide +kernel) ?_
  rw [(hF.mk1 (m := 1) rfl (by decide)).1]
  have hF := (hF.mk1 (m := 1) rfl (by decide)).2
  refine Rc.goL mt_1400 0 (f2 := (4, [.retAddr 1, UU, UU, UU], [.ref 0, .ref 0], (1, rS, iS len sc, lS))) (b := true) rfl rfl ?_
  refine Rc.callI (i := 9) (mid' := 1100) (av := []) (rest := [.ref 0]) (v := none) (M1 := (280, rn_1100 rS, in_1100 (iS len sc), lS)) (a := 0) rfl rfl rfl cw_1100 rfl rfl (Nat.le_of_ble_eq_true rfl) (cn_1100 (by omega) hF) ?_
  have hF := cf_1100 hF
  refine Rc.goL mt_1400 0 (f2 := (8, [.retAddr 1, .ref 0, UU, UU], [], (280, rn_1100 rS, in_1100 (iS len sc), lS))) (b := true) rfl rfl ?_
  refine Rc.goL mt_1400 0 (f2 := (11, [.retAddr 1, .ref 0, UU, UU], [.ref 280], nw (280, rn_1100 rS, in_1100 (iS len sc), lS))) (b := ((Nat.beq (7 : Nat) 7 && Nat.beq (K0 280) 12 && Nat.beq (Z0 280) (nf 12)) && true)) rfl (by decide +kernel) ?_
  rw [(hF.mk1 (m := 281) rfl (by decide)).1]
  have hF := (hF.mk1 (m := 281) rfl (by decide)).2
  refine Rc.goL mt_1400 0 (f2 := (12, [.retAddr 1, .ref 0, UU, UU], [.ref 280, .ref 280], (281, rn_1100 rS, in_1100 (iS len sc), lS))) (b := true) rfl rfl ?_
  refine Rc.callI (i := 12) (mid' := 1200) (av := []) (rest := [.ref 280]) (v := none) (M1 := (336, rn_1200 (rn_1100 rS), in_1200 (in_1100 (iS len sc)), lS)) (a := 280) rfl rfl rfl cw_1200 rfl rfl (Nat.le_of_ble_eq_true rfl) (cn_1200 (by omega) hF) ?_
  refine Rc.goL mt_1400 0 (f2 := (16, [.retAddr 1, .ref 0, .ref 280, UU], [], (336, rn_1200 (rn_1100 rS), in_1200 (in_1100 (iS len sc)), lS))) (b := true) rfl rfl ?_
  refine Rc.goL mt_1400 1 (f2 := (18, [.retAddr 1, .ref 0, .ref 280, .int (0 : Int32)], [], (336, rn_1200 (rn_1100 rS), in_1200 (in_1100 (iS len sc)), lS))) (b := true) rfl rfl ?_
  refine Rc.eqv (R' := R0) (by decide) (fun c hc hk i hi => rEnd c hc hk i hi) ?_
  exact qlw_law_L18_ok d hd _ (0 : Int32) _ _ _ hs
