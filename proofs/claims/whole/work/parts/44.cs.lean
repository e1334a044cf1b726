theorem upR_o {R : MR} {c c2 i j : Nat} {v x : Option Nat} (hc : (Nat.beq c2 c && Nat.beq j i) = false) (h : R c2 j = x) : upR R c i v c2 j = x := by
  unfold upR; rw [hc]; exact h
theorem mt_800 : MT 800 K_800 LN_8 := ⟨rfl, rfl, by decide +kernel⟩
theorem okm_800 : OKm 800 := ⟨⟨vE_800, okL_8, by decide +kernel⟩, by decide +kernel, by decide +kernel, by decide +kernel⟩
def rn_800_4 (R : MR) : MR := (upR (upR (upR (upR (upR (upR (upR R 4 0 (some 5)) 4 1 (some 6)) 4 4 (some 7)) 4 5 (some 8)) 4 6 (some 9)) 4 7 (some 10)) 4 8 (some 11))
theorem rn_800_4_o {R : MR} {k : Nat} {x : Option Nat} (h : R 12 k = x) : rn_800_4 R 12 k = x := upR_o rfl (upR_o rfl (upR_o rfl (upR_o rfl (upR_o rfl (upR_o rfl (upR_o rfl h))))))
theorem cf_800_4 {R : MR} {I : MI} {L : ML} (hF : FM 5 R I L) : FM 12 (rn_800_4 R) I L := by
  have hF := (hF.mk1 (m := 6) rfl (by decide)).2
  have hF := hF.uR (c := 4) (i := 0) (v := some 5) (by decide)
  have hF := (hF.mk1 (m := 7) rfl (by decide)).2
  have hF := hF.uR (c := 4) (i := 1) (v := some 6) (by decide)
  have hF := (hF.mk1 (m := 8) rfl (by decide)).2
  have hF := hF.uR (c := 4) (i := 4) (v := some 7) (by decide)
  have hF := (hF.mk1 (m := 9) rfl (by decide)).2
  have hF := hF.uR (c := 4) (i := 5) (v := some 8) (by decide)
  have hF := (hF.mk1 (m := 10) rfl (by decide)).2
  have hF := hF.uR (c := 4) (i := 6) (v := some 9) (by decide)
  have hF := (hF.mk1 (m := 11) rfl (by decide)).2
  have hF := hF.uR (c := 4) (i := 7) (v := some 10) (by decide)
  have hF := (hF.mk1 (m := 12) rfl (by decide)).2
  have hF := hF.uR (c := 4) (i := 8) (v := some 11) (by decide)
  exact hF
set_option maxRecDepth 20000 in
theorem cn_800_4 {d : Nat} (hd : 1 ≤ d) {R : MR} {I : MI} {L : ML} (hF : FM 5 R I L) : Ex d 800 [.ref 4, .int (0 : Int32)] (5, R, I, L) (none, (12, rn_800_4 R, I, L)) := by
  obtain ⟨d, rfl⟩ : ∃ d0, d = d0 + 1 := ⟨d - 1, by omega⟩
  refine Ex.of okm_800 (by omega) (Nat.le_of_ble_eq_true rfl) ?_
  show Rc (d + 1) 800 (0, [.ref 4, .int (0 : Int32), UU], [], (5, R, I, L)) _
  refine Rc.goL mt_800 4 (f2 := (9, [.ref 4, .int (0 : Int32), UU], [.int ((imx (0 : Int32) (0 : Int32)))], (5, R, I, L))) (b := true) rfl rfl ?_
  rw [show imx (0 : Int32) (0 : Int32) = 0 from by decide]
  refine Rc.goL mt_800 2 (f2 := (12, [.ref 4, .int (0 : Int32), .int (0 : Int32)], [.int (0 : Int32), .ref 4], (5, R, I, L))) (b := true) rfl rfl ?_
  refine Rc.goL mt_800 0 (f2 := (14, [.ref 4, .int (0 : Int32), .int (0 : Int32)], [.ref 5, .ref 4], nw (5, R, I, L))) (b := ((Nat.beq (K0 5) (kAT .char) && decide (¬ (0 : Int32) < 0) && Nat.beq (Int32.toNatClampNeg (0 : Int32)) (Z0 5)) && true)) rfl (by decide +kernel) ?_
  rw [(hF.mk1 (m := 6) rfl (by decide)).1]
  have hF := (hF.mk1 (m := 6) rfl (by decide)).2
  refine Rc.goL mt_800 0 (f2 := (17, [.ref 4, .int (0 : Int32), .int (0 : Int32)], [], (6, (upR R 4 0 (some 5)), I, L))) (b := true) rfl rfl ?_
  have hF := hF.uR (c := 4) (i := 0) (v := some 5) (by decide)
  refine Rc.goL mt_800 1 (f2 := (19, [.ref 4, .int (0 : Int32), .int (0 : Int32)], [.int (0 : Int32), .ref 4], (6, (upR R 4 0 (some 5)), I, L))) (b := true) rfl rfl ?_
  refine Rc.goL mt_800 0 (f2 := (21, [.ref 4, .int (0 : Int32), .int (0 : Int32)], [.ref 6, .ref 4], nw (6, (upR R 4 0 (some 5)), I, L))) (b := ((Nat.beq (K0 6) (kAT .int) && decide (¬ (0 : Int32) < 0) && Nat.beq (Int32.toNatClampNeg (0 : Int32)) (Z0 6)) && true)) rfl (by decide +kernel) ?_
  rw [(hF.mk1 (m := 7) rfl (by decide)).1]
  have hF := (hF.mk1 (m := 7) rfl (by decide)).2
  refine Rc.goL mt_800 0 (f2 := (24, [.ref 4, .int (0 : Int32), .int (0 : Int32)], [], (7, (upR (upR R 4 0 (some 5)) 4 1 (some 6)), I, L))) (b := true) rfl rfl ?_
  have hF := hF.uR (c := 4) (i := 1) (v := some 6) (by decide)
  refine Rc.goL mt_800 1 (f2 := (27, [.ref 4, .int (0 : Int32), .int (0 : Int32)], [.int (10 : Int32), .ref 4], (7, (upR (upR R 4 0 (some 5)) 4 1 (some 6)), I, L))) (b := true) rfl rfl ?_
  refine Rc.goL mt_800 0 (f2 := (29, [.ref 4, .int (0 : Int32), .int (0 : Int32)], [.ref 7, .ref 4], nw (7, (upR (upR R 4 0 (some 5)) 4 1 (some 6)), I, L))) (b := ((Nat.beq (K0 7) (kAT .int) && decide (¬ (10 : Int32) < 0) && Nat.beq (Int32.toNatClampNeg (10 : Int32)) (Z0 7)) && true)) rfl (by decide +kernel) ?_
  rw [(hF.mk1 (m := 8) rfl (by decide)).1]
  have hF := (hF.mk1 (m := 8) rfl (by decide)).2
  refine Rc.goL mt_800 0 (f2 := (32, [.ref 4, .int (0 : Int32), .int (0 : Int32)], [], (8, (upR (upR (upR R 4 0 (some 5)) 4 1 (some 6)) 4 4 (some 7)), I, L))) (b := true) rfl rfl ?_
  have hF := hF.uR (c := 4) (i := 4) (v := some 7) (by decide)
  refine Rc.goL mt_800 1 (f2 := (35, [.ref 4, .int (0 : Int32), .int (0 : Int32)], [.int (10 : Int32), .ref 4], (8, (upR (upR (upR R 4 0 (some 5)) 4 1 (some 6)) 4 4 (some 7)), I, L))) (b := true) rfl rfl ?_
  refine Rc.goL mt_800 0 (f2 := (37, [.ref 4, .int (0 : Int32), .int (0 : Int32)], [.ref 8, .ref 4], nw (8, (upR (upR (upR R 4 0 (some 5)) 4 1 (some 6)) 4 4 (some 7)), I, L))) (b := ((Nat.beq (K0 8) (kAT .int) && decide (¬ (10 : Int32) < 0) && Nat.beq (Int32.toNatClampNeg (10 : Int32)) (Z0 8)) && true)) rfl (by decide +kernel) ?_
  rw [(hF.mk1 (m := 9) rfl (by decide)).1]
  have hF := (hF.mk1 (m := 9) rfl (by decide)).2
  refine Rc.goL mt_800 0 (f2 := (40, [.ref 4, .int (0 : Int32), .int (0 : Int32)], [], (9, (upR (upR (upR (upR R 4 0 (some 5)) 4 1 (some 6)) 4 4 (some 7)) 4 5 (some 8)), I, L))) (b := true) rfl rfl ?_
  have hF := hF.uR (c := 4) (i := 5) (v := some 8) (by decide)
  refine Rc.goL mt_800 1 (f2 := (43, [.ref 4, .int (0 : Int32), .int (0 : Int32)], [.int (10 : Int32), .ref 4], (9, (upR (upR (upR (upR R 4 0 (some 5)) 4 1 (some 6)) 4 4 (some 7)) 4 5 (some 8)), I, L))) (b := true) rfl rfl ?_
  refine Rc.goL mt_800 0 (f2 := (45, [.ref 4, .int (0 : Int32), .int (0 : Int32)], [.ref 9, .ref 4], nw (9, (upR (upR (upR (upR R 4 0 (some 5)) 4 1 (some 6)) 4 4 (some 7)) 4 5 (some 8)), I, L))) (b := ((Nat.beq (K0 9) (kAT .int) && decide (¬ (10 : Int32) < 0) && Nat.beq (Int32.toNatClampNeg (10 : Int32)) (Z0 9)) && true)) rfl (by decide +kernel) ?_
  rw [(hF.mk1 (m := 10) rfl (by decide)).1]
  have hF := (hF.mk1 (m := 10) rfl (by decide)).2
  refine Rc.goL mt_800 0 (f2 := (48, [.ref 4, .int (0 : Int32), .int (0 : Int32)], [], (10, (upR (upR (upR (upR (upR R 4 0 (some 5)) 4 1 (some 6)) 4 4 (some 7)) 4 5 (some 8)) 4 6 (some 9)), I, L))) (b := true) rfl rfl ?_
  have hF := hF.uR (c := 4) (i := 6) (v := some 9) (by decide)
  refine Rc.goL mt_800 1 (f2 := (51, [.ref 4, .int (0 : Int32), .int (0 : Int32)], [.int (10 : Int32), .ref 4], (10, (upR (upR (upR (upR (upR R 4 0 (some 5)) 4 1 (some 6)) 4 4 (some 7)) 4 5 (some 8)) 4 6 (some 9)), I, L))) (b := true) rfl rfl ?_
  refine Rc.goL mt_800 0 (f2 := (53, [.ref 4, .int (0 : Int32), .int (0 : Int32)], [.ref 10, .ref 4], nw (10, (upR (upR (upR (upR (upR R 4 0 (some 5)) 4 1 (some 6)) 4 4 (some 7)) 4 5 (some 8)) 4 6 (some 9)), I, L))) (b := ((Nat.beq (K0 10) (kAT .int) && decide (¬ (10 : Int32) < 0) && Nat.beq (Int32.toNatClampNeg (10 : Int32)) (Z0 10)) && true)) rfl (by decide +kernel) ?_
  rw [(hF.mk1 (m := 11) rfl (by decide)).1]
  have hF := (hF.mk1 (m := 11) rfl (by decide)).2
  refine Rc.goL mt_800 0 (f2 := (56, [.ref 4, .int (0 : Int32), .int (0 : Int32)], [], (11, (upR (upR (upR (upR (upR (upR R 4 0 (some 5)) 4 1 (some 6)) 4 4 (some 7)) 4 5 (some 8)) 4 6 (some 9)) 4 7 (some 10)), I, L))) (b := true) rfl rfl ?_
  have hF := hF.uR (c := 4) (i := 7) (v := some 10) (by decide)
  refine Rc.goL mt_800 1 (f2 := (59, [.ref 4, .int (0 : Int32), .int (0 : Int32)], [.int (10 : Int32), .ref 4], (11, (upR (upR (upR (upR (upR (upR R 4 0 (some 5)) 4 1 (some 6)) 4 4 (some 7)) 4 5 (some 8)) 4 6 (some 9)) 4 7 (some 10)), I, L))) (b := true) rfl rfl ?_
  refine Rc.goL mt_800 0 (f2 := (61, [.ref 4, .int (0 : Int32), .int (0 : Int32)], [.ref 11, .ref 4], nw (11, (upR (upR (upR (upR (upR (upR R 4 0 (some 5)) 4 1 (some 6)) 4 4 (some 7)) 4 5 (some 8)) 4 6 (some 9)) 4 7 (some 10)), I, L))) (b := ((Nat.beq (K0 11) (kAT .int) && decide (¬ (10 : Int32) < 0) && Nat.beq (Int32.toNatClampNeg (10 : Int32)) (Z0 11)) && true)) rfl (by decide +kernel) ?_
  rw [(hF.mk1 (m := 12) rfl (by decide)).1]
  have hF := (hF.mk1 (m := 12) rfl (by decide)).2
  refine Rc.goL mt_800 0 (f2 := (64, [.ref 4, .int (0 : Int32), .int (0 : Int32)], [], (12, (upR (upR (upR (upR (upR (upR (upR R 4 0 (some 5)) 4 1 (some 6)) 4 4 (some 7)) 4 5 (some 8)) 4 6 (some 9)) 4 7 (some 10)) 4 8 (some 11)), I, L))) (b := true) rfl rfl ?_
  have hF := hF.uR (c := 4) (i := 8) (v := some 11) (by decide)
  exact Rc.ret (v := none) rfl rfl
def rn_800_15 (R : MR) : MR := (upR (upR (upR (upR (upR (upR (upR R 15 0 (some 16)) 15 1 (some 17)) 15 4 (some 18)) 15 5 (some 19)) 15 6 (some 20)) 15 7 (some 21)) 15 8 (some 22))
theorem rn_800_15_o {R : MR} {k : Nat} {x : Option Nat} (h : R 12 k = x) : rn_800_15 R 12 k = x := upR_o rfl (upR_o rfl (upR_o rfl (upR_o rfl (upR_o rfl (upR_o rfl (upR_o rfl h))))))
theorem cf_800_15 {R : MR} {I : MI} {L : ML} (hF : FM 16 R I L) : FM 23 (rn_800_15 R) I L := by
  have hF := (hF.mk1 (m := 17) rfl (by decide)).2
  have hF := hF.uR (c := 15) (i := 0) (v := some 16) (by decide)
  have hF := (hF.mk1 (m := 18) rfl (by decide)).2
  have hF := hF.uR (c := 15) (i := 1) (v := some 17) (by decide)
  have hF := (hF.mk1 (m := 19) rfl (by decide)).2
  have hF := hF.uR (c := 15) (i := 4) (v := some 18) (by decide)
  have hF := (hF.mk1 (m := 20) rfl (by decide)).2
  have hF := hF.uR (c := 15) (i := 5) (v := some 19) (by decide)
  have hF := (hF.mk1 (m := 21) rfl (by decide)).2
  have hF := hF.uR (c := 15) (i := 6) (v := some 20) (by decide)
  have hF := (hF.mk1 (m := 22) rfl (by decide)).2
  have hF := hF.uR (c := 15) (i := 7) (v := some 21) (by decide)
  have hF := (hF.mk1 (m := 23) rfl (by decide)).2
  have hF := hF.uR (c := 15) (i := 8) (v := some 22) (by decide)
  exact hF
set_option maxRecDepth 20000 in
theorem cn_800_15 {d : Nat} (hd : 1 ≤ d) {R : MR} {I : MI} {L : ML} (hF : FM 16 R I L) : Ex d 800 [.ref 15, .int (200 : Int32)] (16, R, I, L) (none, (23, rn_800_15 R, I, L)) := by
  obtain ⟨d, rfl⟩ : ∃ d0, d = d0 + 1 := ⟨d - 1, by omega⟩
  refine Ex.of okm_800 (by omega) (Nat.le_of_ble_eq_true rfl) ?_
  show Rc (d + 1) 800 (0, [.ref 15, .int (200 : Int32), UU], [], (16, R, I, L)) _
  refine Rc.goL mt_800 4 (f2 := (9, [.ref 15, .int (200 : Int32), UU], [.int ((imx (0 : Int32) (200 : Int32)))], (16, R, I, L))) (b := true) rfl rfl ?_
  rw [show imx (0 : Int32) (200 : Int32) = 200 from by decide]
  refine Rc.goL mt_800 2 (f2 := (12, [.ref 15, .int (200 : Int32), .int (200 : Int32)], [.int (200 : Int32), .ref 15], (16, R, I, L))) (b := true) rfl rfl ?_
  refine Rc.goL mt_800 0 (f2 := (14, [.ref 15, .int (200 : Int32), .int (200 : Int32)], [.ref 16, .ref 15], nw (16, R, I, L))) (b := ((Nat.beq (K0 16) (kAT .char) && decide (¬ (200 : Int32) < 0) && Nat.beq (Int32.toNatClampNeg (200 : Int32)) (Z0 16)) && true)) rfl (by decide +kernel) ?_
  rw [(hF.mk1 (m := 17) rfl (by decide)).1]
  have hF := (hF.mk1 (m := 17) rfl (by decide)).2
  refine Rc.goL mt_800 0 (f2 := (17, [.ref 15, .int (200 : Int32), .int (200 : Int32)], [], (17, (upR R 15 0 (some 16)), I, L))) (b := true) rfl rfl ?_
  have hF := hF.uR (c := 15) (i := 0) (v := some 16) (by decide)
  refine Rc.goL mt_800 1 (f2 := (19, [.ref 15, .int (200 : Int32), .int (200 : Int32)], [.int (200 : Int32), .ref 15], (17, (upR R 15 0 (some 16)), I, L))) (b := true) rfl rfl ?_
  refine Rc.goL mt_800 0 (f2 := (21, [.ref 15, .int (200 : Int32), .int (200 : Int32)], [.ref 17, .ref 15], nw (17, (upR R 15 0 (some 16)), I, L))) (b := ((Nat.beq (K0 17) (kAT .int) && decide (¬ (200 : Int32) < 0) && Nat.beq (Int32.toNatClampNeg (200 : Int32)) (Z0 17)) && true)) rfl (by decide +kernel) ?_
  rw [(hF.mk1 (m := 18) rfl (by decide)).1]
  have hF := (hF.mk1 (m := 18) rfl (by decide)).2
  refine Rc.goL mt_800 0 (f2 := (24, [.ref 15, .int (200 : Int32), .int (200 : Int32)], [], (18, (upR (upR R 15 0 (some 16)) 15 1 (some 17)), I, L))) (b := true) rfl rfl ?_
  have hF := hF.uR (c := 15) (i := 1) (v := some 17) (by decide)
  refine Rc.goL mt_800 1 (f2 := (27, [.ref 15, .int (200 : Int32), .int (200 : Int32)], [.int (10 : Int32), .ref 15], (18, (upR (upR R 15 0 (some 16)) 15 1 (some 17)), I, L))) (b := true) rfl rfl ?_
  refine Rc.goL mt_800 0 (f2 := (29, [.ref 15, .int (200 : Int32), .int (200 : Int32)], [.ref 18, .ref 15], nw (18, (upR (upR R 15 0 (some 16)) 15 1 (some 17)), I, L))) (b := ((Nat.beq (K0 18) (kAT .int) && decide (¬ (10 : Int32) < 0) && Nat.beq (Int32.toNatClampNeg (10 : Int32)) (Z0 18)) && true)) rfl (by decide +kernel) ?_
  rw [(hF.mk1 (m := 19) rfl (by decide)).1]
  have hF := (hF.mk1 (m := 19) rfl (by decide)).2
  refine Rc.goL mt_800 0 (f2 := (32, [.ref 15, .int (200 : Int32), .int (200 : Int32)], [], (19, (upR (upR (upR R 15 0 (some 16)) 15 1 (some 17)) 15 4 (some 18)), I, L))) (b := true) rfl rfl ?_
  have hF := hF.uR (c := 15) (i := 4) (v := some 18) (by decide)
  refine Rc.goL mt_800 1 (f2 := (35, [.ref 15, .int (200 : Int32), .int (200 : Int32)], [.int (10 : Int32), .ref 15], (19, (upR (upR (upR R 15 0 (some 16)) 15 1 (some 17)) 15 4 (some 18)), I, L))) (b := true) rfl rfl ?_
  refine Rc.goL mt_800 0 (f2 := (37, [.ref 15, .int (200 : Int32), .int (200 : Int32)], [.ref 19, .ref 15], nw (19, (upR (upR (upR R 15 0 (some 16)) 15 1 (some 17)) 15 4 (some 18)), I, L))) (b := ((Nat.beq (K0 19) (kAT .int) && decide (¬ (10 : Int32) < 0) && Nat.beq (Int32.toNatClampNeg (10 : Int32)) (Z0 19)) && true)) rfl (by decide +kernel) ?_
  rw [(hF.mk1 (m := 20) rfl (by decide)).1]
  have hF := (hF.mk1 (m := 20) rfl (by decide)).2
  refine Rc.goL mt_800 0 (f2 := (40, [.ref 15, .int (200 : Int32), .int (200 : Int32)], [], (20, (upR (upR (upR (upR R 15 0 (some 16)) 15 1 (some 17)) 15 4 (some 18)) 15 5 (some 19)), I, L))) (b := true) rfl rfl ?_
  have hF := hF.uR (c := 15) (i := 5) (v := some 19) (by decide)
  refine Rc.goL mt_800 1 (f2 := (43, [.ref 15, .int (200 : Int32), .int (200 : Int32)], [.int (10 : Int32), .ref 15], (20, (upR (upR (upR (upR R 15 0 (some 16)) 15 1 (some 17)) 15 4 (some 18)) 15 5 (some 19)), I, L))) (b := true) rfl rfl ?_
  refine Rc.goL mt_800 0 (f2 := (45, [.ref 15, .int (200 : Int32), .int (200 : Int32)], [.ref 20, .ref 15], nw (20, (upR (upR (upR (upR R 15 0 (some 16)) 15 1 (some 17)) 15 4 (some 18)) 15 5 (some 19)), I, L))) (b := ((Nat.beq (K0 20) (kAT .int) && decide (¬ (10 : Int32) < 0) && Nat.beq (Int32.toNatClampNeg (10 : Int32)) (Z0 20)) && true)) rfl (by decide +kernel) ?_
  rw [(hF.mk1 (m := 21) rfl (by decide)).1]
  have hF := (hF.mk1 (m := 21) rfl (by decide)).2
  refine Rc.goL mt_800 0 (f2 := (48, [.ref 15, .int (200 : Int32), .int (200 : Int32)], [], (21, (upR (upR (upR (upR (upR R 15 0 (some 16)) 15 1 (some 17)) 15 4 (some 18)) 15 5 (some 19)) 15 6 (some 20)), I, L))) (b := true) rfl rfl ?_
  have hF := hF.uR (c := 15) (i := 6) (v := some 20) (by decide)
  refine Rc.goL mt_800 1 (f2 := (51, [.ref 15, .int (200 : Int32), .int (200 : Int32)], [.int (10 : Int32), .ref 15], (21, (upR (upR (upR (upR (upR R 15 0 (some 16)) 15 1 (some 17)) 15 4 (some 18)) 15 5 (some 19)) 15 6 (some 20)), I, L))) (b := true) rfl rfl ?_
  refine Rc.goL mt_800 0 (f2 := (53, [.ref 15, .int (200 : Int32), .int (200 : Int32)], [.ref 21, .ref 15], nw (21, (upR (upR (upR (upR (upR R 15 0 (some 16)) 15 1 (some 17)) 15 4 (some 18)) 15 5 (some 19)) 15 6 (some 20)), I, L))) (b := ((Nat.beq (K0 21) (kAT .int) && decide (¬ (10 : Int32) < 0) && Nat.beq (Int32.toNatClampNeg (10 : Int32)) (Z0 21)) && true)) rfl (by decide +kernel) ?_
  rw [(hF.mk1 (m := 22) rfl (by decide)).1]
  have hF := (hF.mk1 (m := 22) rfl (by decide)).2
  refine Rc.goL mt_800 0 (f2 := (56, [.ref 15, .int (200 : Int32), .int (200 : Int32)], [], (22, (upR (upR (upR (upR (upR (upR R 15 0 (some 16)) 15 1 (some 17)) 15 4 (some 18)) 15 5 (some 19)) 15 6 (some 20)) 15 7 (some 21)), I, L))) (b := true) rfl rfl ?_
  have hF := hF.uR (c := 15) (i := 7) (v := some 21) (by decide)
  refine Rc.goL mt_800 1 (f2 := (59, [.ref 15, .int (200 : Int32), .int (200 : Int32)], [.int (10 : Int32), .ref 15], (22, (upR (upR (upR (upR (upR (upR R 15 0 (some 16)) 15 1 (some 17)) 15 4 (some 18)) 15 5 (some 19)) 15 6 (some 20)) 15 7 (some 21)), I, L))) (b := true) rfl rfl ?_
  refine Rc.goL mt_800 0 (f2 := (61, [.ref 15, .int (200 : Int32), .int (200 : Int32)], [.ref 22, .ref 15], nw (22, (upR (upR (upR (upR (upR (upR R 15 0 (some 16)) 15 1 (some 17)) 15 4 (some 18)) 15 5 (some 19)) 15 6 (some 20)) 15 7 (some 21)), I, L))) (b := ((Nat.beq (K0 22) (kAT .int) && decide (¬ (10 : Int32) < 0) && Nat.beq (Int32.toNatClampNeg (10 : Int32)) (Z0 22)) && true)) rfl (by decide +kernel) ?_
  rw [(hF.mk1 (m := 23) rfl (by decide)).1]
  have hF := (hF.mk1 (m := 23) rfl (by decide)).2
  refine Rc.goL mt_800 0 (f2 := (64, [.ref 15, .int (200 : Int32), .int (200 : Int32)], [], (23, (upR (upR (upR (upR (upR (upR (upR R 15 0 (some 16)) 15 1 (some 17)) 15 4 (some 18)) 15 5 (some 19)) 15 6 (some 20)) 15 7 (some 21)) 15 8 (some 22)), I, L))) (b := true) rfl rfl ?_
  have hF := hF.uR (c := 15) (i := 8) (v := some 22) (by decide)
  exact Rc.ret (v := none) rfl rfl
def rn_800_23 (R : MR) : MR := (upR (upR (upR (upR (upR (upR (upR R 23 0 (some 24)) 23 1 (some 25)) 23 4 (some 26)) 23 5 (some 27)) 23 6 (some 28)) 23 7 (some 29)) 23 8 (some 30))
theorem rn_800_23_o {R : MR} {k : Nat} {x : Option Nat} (h : R 12 k = x) : rn_800_23 R 12 k = x := upR_o rfl (upR_o rfl (upR_o rfl (upR_o rfl (upR_o rfl (upR_o rfl (upR_o rfl h))))))
theorem cf_800_23 {R : MR} {I : MI} {L : ML} (hF : FM 24 R I L) : FM 31 (rn_800_23 R) I L := by
  have hF := (hF.mk1 (m := 25) rfl (by decide)).2
  have hF := hF.uR (c := 23) (i := 0) (v := some 24) (by decide)
  have hF := (hF.mk1 (m := 26) rfl (by decide)).2
  have hF := hF.uR (c := 23) (i := 1) (v := some 25) (by decide)
  have hF := (hF.mk1 (m := 27) rfl (by decide)).2
  have hF := hF.uR (c := 23) (i := 4) (v := some 26) (by decide)
  have hF := (hF.mk1 (m := 28) rfl (by decide)).2
  have hF := hF.uR (c := 23) (i := 5) (v := some 27) (by decide)
  have hF := (hF.mk1 (m := 29) rfl (by decide)).2
  have hF := hF.uR (c := 23) (i := 6) (v := some 28) (by decide)
  have hF := (hF.mk1 (m := 30) rfl (by decide)).2
  have hF := hF.uR (c := 23) (i := 7) (v := some 29) (by decide)
  have hF := (hF.mk1 (m := 31) rfl (by decide)).2
  have hF := hF.uR (c := 23) (i := 8) (v := some 30) (by decide)
  exact hF
set_option maxRecDepth 20000 in
theorem cn_800_23 {d : Nat} (hd : 1 ≤ d) {R : MR} {I : MI} {L : ML} (hF : FM 24 R I L) : Ex d 800 [.ref 23, .int (60 : Int32)] (24, R, I, L) (none, (31, rn_800_23 R, I, L)) := by
  obtain ⟨d, rfl⟩ : ∃ d0, d = d0 + 1 := ⟨d - 1, by omega⟩
  refine Ex.of okm_800 (by omega) (Nat.le_of_ble_eq_true rfl) ?_
  show Rc (d + 1) 800 (0, [.ref 23, .int (60 : Int32), UU], [], (24, R, I, L)) _
  refine Rc.goL mt_800 4 (f2 := (9, [.ref 23, .int (60 : Int32), UU], [.int ((imx (0 : Int32) (60 : Int32)))], (24, R, I, L))) (b := true) rfl rfl ?_
  rw [show imx (0 : Int32) (60 : Int32) = 60 from by decide]
  refine Rc.goL mt_800 2 (f2 := (12, [.ref 23, .int (60 : Int32), .int (60 : Int32)], [.int (60 : Int32), .ref 23], (24, R, I, L))) (b := true) rfl rfl ?_
  refine Rc.goL mt_800 0 (f2 := (14, [.ref 23, .int (60 : Int32), .int (60 : Int32)], [.ref 24, .ref 23], nw (24, R, I, L))) (b := ((Nat.beq (K0 24) (kAT .char) && decide (¬ (60 : Int32) < 0) && Nat.beq (Int32.toNatClampNeg (60 : Int32)) (Z0 24)) && true)) rfl (by decide +kernel) ?_
  rw [(hF.mk1 (m := 25) rfl (by decide)).1]
  have hF := (hF.mk1 (m := 25) rfl (by decide)).2
  refine Rc.goL mt_800 0 (f2 := (17, [.ref 23, .int (60 : Int32), .int (60 : Int32)], [], (25, (upR R 23 0 (some 24)), I, L))) (b := true) rfl rfl ?_
  have hF := hF.uR (c := 23) (i := 0) (v := some 24) (by decide)
  refine Rc.goL mt_800 1 (f2 := (19, [.ref 23, .int (60 : Int32), .int (60 : Int32)], [.int (60 : Int32), .ref 23], (25, (upR R 23 0 (some 24)), I, L))) (b := true) rfl rfl ?_
  refine Rc.goL mt_800 0 (f2 := (21, [.ref 23, .int (60 : Int32), .int (60 : Int32)], [.ref 25, .ref 23], nw (25, (upR R 23 0 (some 24)), I, L))) (b := ((Nat.beq (K0 25) (kAT .int) && decide (¬ (60 : Int32) < 0) && Nat.beq (Int32.toNatClampNeg (60 : Int32)) (Z0 25)) && true)) rfl (by decide +kernel) ?_
  rw [(hF.mk1 (m := 26) rfl (by decide)).1]
  have hF := (hF.mk1 (m := 26) rfl (by decide)).2
  refine Rc.goL mt_800 0 (f2 := (24, [.ref 23, .int (60 : Int32), .int (60 : Int32)], [], (26, (upR (upR R 23 0 (some 24)) 23 1 (some 25)), I, L))) (b := true) rfl rfl ?_
  have hF := hF.uR (c := 23) (i := 1) (v := some 25) (by decide)
  refine Rc.goL mt_800 1 (f2 := (27, [.ref 23, .int (60 : Int32), .int (60 : Int32)], [.int (10 : Int32), .ref 23], (26, (upR (upR R 23 0 (some 24)) 23 1 (some 25)), I, L))) (b := true) rfl rfl ?_
  refine Rc.goL mt_800 0 (f2 := (29, [.ref 23, .int (60 : Int32), .int (60 : Int32)], [.ref 26, .ref 23], nw (26, (upR (upR R 23 0 (some 24)) 23 1 (some 25)), I, L))) (b := ((Nat.beq (K0 26) (kAT .int) && decide (¬ (10 : Int32) < 0) && Nat.beq (Int32.toNatClampNeg (10 : Int32)) (Z0 26)) && true)) rfl (by decide +kernel) ?_
  rw [(hF.mk1 (m := 27) rfl (by decide)).1]
  have hF := (hF.mk1 (m := 27) rfl (by decide)).2
  refine Rc.goL mt_800 0 (f2 := (32, [.ref 23, .int (60 : Int32), .int (60 : Int32)], [], (27, (upR (upR (upR R 23 0 (some 24)) 23 1 (some 25)) 23 4 (some 26)), I, L))) (b := true) rfl rfl ?_
  have hF := hF.uR (c := 23) (i := 4) (v := some 26) (by decide)
  refine Rc.goL mt_800 1 (f2 := (35, [.ref 23, .int (60 : Int32), .int (60 : Int32)], [.int (10 : Int32), .ref 23], (27, (upR (upR (upR R 23 0 (some 24)) 23 1 (some 25)) 23 4 (some 26)), I, L))) (b := true) rfl rfl ?_
  refine Rc.goL mt_800 0 (f2 := (37, [.ref 23, .int (60 : Int32), .int (60 : Int32)], [.ref 27, .ref 23], nw (27, (upR (upR (upR R 23 0 (some 24)) 23 1 (some 25)) 23 4 (some 26)), I, L))) (b := ((Nat.beq (K0 27) (kAT .int) && decide (¬ (10 : Int32) < 0) && Nat.beq (Int32.toNatClampNeg (10 : Int32)) (Z0 27)) && true)) rfl (by decide +kernel) ?_
  rw [(hF.mk1 (m := 28) rfl (by decide)).1]
  have hF := (hF.mk1 (m := 28) rfl (by decide)).2
  refine Rc.goL mt_800 0 (f2 := (40, [.ref 23, .int (60 : Int32), .int (60 : Int32)], [], (28, (upR (upR (upR (upR R 23 0 (some 24)) 23 1 (some 25)) 23 4 (some 26)) 23 5 (some 27)), I, L))) (b := true) rfl rfl ?_
  have hF := hF.uR (c := 23) (i := 5) (v := some 27) (by decide)
  refine Rc.goL mt_800 1 (f2 := (43, [.ref 23, .int (60 : Int32), .int (60 : Int32)], [.int (10 : Int32), .ref 23], (28, (upR (upR (upR (upR R 23 0 (some 24)) 23 1 (some 25)) 23 4 (some 26)) 23 5 (some 27)), I, L))) (b := true) rfl rfl ?_
  refine Rc.goL mt_800 0 (f2 := (45, [.ref 23, .int (60 : Int32), .int (60 : Int32)], [.ref 28, .ref 23], nw (28, (upR (upR (upR (upR R 23 0 (some 24)) 23 1 (some 25)) 23 4 (some 26)) 23 5 (some 27)), I, L))) (b := ((Nat.beq (K0 28) (kAT .int) && decide (¬ (10 : Int32) < 0) && Nat.beq (Int32.toNatClampNeg (10 : Int32)) (Z0 28)) && true)) rfl (by decide +kernel) ?_
  rw [(hF.mk1 (m := 29) rfl (by decide)).1]
  have hF := (hF.mk1 (m := 29) rfl (by decide)).2
  refine Rc.goL mt_800 0 (f2 := (48, [.ref 23, .int (60 : Int32), .int (60 : Int32)], [], (29, (upR (upR (upR (upR (upR R 23 0 (some 24)) 23 1 (some 25)) 23 4 (some 26)) 23 5 (some 27)) 23 6 (some 28)), I, L))) (b := true) rfl rfl ?_
  have hF := hF.uR (c := 23) (i := 6) (v := some 28) (by decide)
  refine Rc.goL mt_800 1 (f2 := (51, [.ref 23, .int (60 : Int32), .int (60 : Int32)], [.int (10 : Int32), .ref 23], (29, (upR (upR (upR (upR (upR R 23 0 (some 24)) 23 1 (some 25)) 23 4 (some 26)) 23 5 (some 27)) 23 6 (some 28)), I, L))) (b := true) rfl rfl ?_
  refine Rc.goL mt_800 0 (f2 := (53, [.ref 23, .int (60 : Int32), .int (60 : Int32)], [.ref 29, .ref 23], nw (29, (upR (upR (upR (upR (upR R 23 0 (some 24)) 23 1 (some 25)) 23 4 (some 26)) 23 5 (some 27)) 23 6 (some 28)), I, L))) (b := ((Nat.beq (K0 29) (kAT .int) && decide (¬ (10 : Int32) < 0) && Nat.beq (Int32.toNatClampNeg (10 : Int32)) (Z0 29)) && true)) rfl (by decide +kernel) ?_
  rw [(hF.mk1 (m := 30) rfl (by decide)).1]
  have hF := (hF.mk1 (m := 30) rfl (by decide)).2
  refine Rc.goL mt_800 0 (f2 := (56, [.ref 23, .int (60 : Int32), .int (60 : Int32)], [], (30, (upR (upR (upR (upR (upR (upR R 23 0 (some 24)) 23 1 (some 25)) 23 4 (some 26)) 23 5 (some 27)) 23 6 (some 28)) 23 7 (some 29)), I, L))) (b := true) rfl rfl ?_
  have hF := hF.uR (c := 23) (i := 7) (v := some 29) (by decide)
  refine Rc.goL mt_800 1 (f2 := (59, [.ref 23, .int (60 : Int32), .int (60 : Int32)], [.int (10 : Int32), .ref 23], (30, (upR (upR (upR (upR (upR (upR R 23 0 (some 24)) 23 1 (some 25)) 23 4 (some 26)) 23 5 (some 27)) 23 6 (some 28)) 23 7 (some 29)), I, L))) (b := true) rfl rfl ?_
  refine Rc.goL mt_800 0 (f2 := (61, [.ref 23, .int (60 : Int32), .int (60 : Int32)], [.ref 30, .ref 23], nw (30, (upR (upR (upR (upR (upR (upR R 23 0 (some 24)) 23 1 (some 25)) 23 4 (some 26)) 23 5 (some 27)) 23 6 (some 28)) 23 7 (some 29)), I, L))) (b := ((Nat.beq (K0 30) (kAT .int) && decide (¬ (10 : Int32) < 0) && Nat.beq (Int32.toNatClampNeg (10 : Int32)) (Z0 30)) && true)) rfl (by decide +kernel) ?_
  rw [(hF.mk1 (m := 31) rfl (by decide)).1]
  have hF := (hF.mk1 (m := 31) rfl (by decide)).2
  refine Rc.goL mt_800 0 (f2 := (64, [.ref 23, .int (60 : Int32), .int (60 : Int32)], [], (31, (upR (upR (upR (upR (upR (upR (upR R 23 0 (some 24)) 23 1 (some 25)) 23 4 (some 26)) 23 5 (some 27)) 23 6 (some 28)) 23 7 (some 29)) 23 8 (some 30)), I, L))) (b := true) rfl rfl ?_
  have hF := hF.uR (c := 23) (i := 8) (v := some 30) (by decide)
  exact Rc.ret (v := none) rfl rfl
def rn_800_31 (R : MR) : MR := (upR (upR (upR (upR (upR (upR (upR R 31 0 (some 32)) 31 1 (some 33)) 31 4 (some 34)) 31 5 (some 35)) 31 6 (some 36)) 31 7 (some 37)) 31 8 (some 38))
theorem rn_800_31_o {R : MR} {k : Nat} {x : Option Nat} (h : R 12 k = x) : rn_800_31 R 12 k = x := upR_o rfl (upR_o rfl (upR_o rfl (upR_o rfl (upR_o rfl (upR_o rfl (upR_o rfl h))))))
theorem cf_800_31 {R : MR} {I : MI} {L : ML} (hF : FM 32 R I L) : FM 39 (rn_800_31 R) I L := by
  have hF := (hF.mk1 (m := 33) rfl (by decide)).2
  have hF := hF.uR (c := 31) (i := 0) (v := some 32) (by decide)
  have hF := (hF.mk1 (m := 34) rfl (by decide)).2
  have hF := hF.uR (c := 31) (i := 1) (v := some 33) (by decide)
  have hF := (hF.mk1 (m := 35) rfl (by decide)).2
  have hF := hF.uR (c := 31) (i := 4) (v := some 34) (by decide)
  have hF := (hF.mk1 (m := 36) rfl (by decide)).2
  have hF := hF.uR (c := 31) (i := 5) (v := some 35) (by decide)
  have hF := (hF.mk1 (m := 37) rfl (by decide)).2
  have hF := hF.uR (c := 31) (i := 6) (v := some 36) (by decide)
  have hF := (hF.mk1 (m := 38) rfl (by decide)).2
  have hF := hF.uR (c := 31) (i := 7) (v := some 37) (by decide)
  have hF := (hF.mk1 (m := 39) rfl (by decide)).2
  have hF := hF.uR (c := 31) (i := 8) (v := some 38) (by decide)
  exact hF
set_option maxRecDepth 20000 in
theorem cn_800_31 {d : Nat} (hd : 1 ≤ d) {R : MR} {I : MI} {L : ML} (hF : FM 32 R I L) : Ex d 800 [.ref 31, .int (200 : Int32)] (32, R, I, L) (none, (39, rn_800_31 R, I, L)) := by
  obtain ⟨d, rfl⟩ : ∃ d0, d = d0 + 1 := ⟨d - 1, by omega⟩
  refine Ex.of okm_800 (by omega) (Nat.le_of_ble_eq_true rfl) ?_
  show Rc (d + 1) 800 (0, [.ref 31, .int (200 : Int32), UU], [], (32, R, I, L)) _
  refine Rc.goL mt_800 4 (f2 := (9, [.ref 31, .int (200 : Int32), UU], [.int ((imx (0 : Int32) (200 : Int32)))], (32, R, I, L))) (b := true) rfl rfl ?_
  rw [show imx (0 : Int32) (200 : Int32) = 200 from by decide]
  refine Rc.goL mt_800 2 (f2 := (12, [.ref 31, .int (200 : Int32), .int (200 : Int32)], [.int (200 : Int32), .ref 31], (32, R, I, L))) (b := true) rfl rfl ?_
  refine Rc.goL mt_800 0 (f2 := (14, [.ref 31, .int (200 : Int32), .int (200 : Int32)], [.ref 32, .ref 31], nw (32, R, I, L))) (b := ((Nat.beq (K0 32) (kAT .char) && decide (¬ (200 : Int32) < 0) && Nat.beq (Int32.toNatClampNeg (200 : Int32)) (Z0 32)) && true)) rfl (by decide +kernel) ?_
  rw [(hF.mk1 (m := 33) rfl (by decide)).1]
  have hF := (hF.mk1 (m := 33) rfl (by decide)).2
  refine Rc.goL mt_800 0 (f2 := (17, [.ref 31, .int (200 : Int32), .int (200 : Int32)], [], (33, (upR R 31 0 (some 32)), I, L))) (b := true) rfl rfl ?_
  have hF := hF.uR (c := 31) (i := 0) (v := some 32) (by decide)
  refine Rc.goL mt_800 1 (f2 := (19, [.ref 31, .int (200 : Int32), .int (200 : Int32)], [.int (200 : Int32), .ref 31], (33, (upR R 31 0 (some 32)), I, L))) (b := true) rfl rfl ?_
  refine Rc.goL mt_800 0 (f2 := (21, [.ref 31, .int (200 : Int32), .int (200 : Int32)], [.ref 33, .ref 31], nw (33, (upR R 31 0 (some 32)), I, L))) (b := ((Nat.beq (K0 33) (kAT .int) && decide (¬ (200 : Int32) < 0) && Nat.beq (Int32.toNatClampNeg (200 : Int32)) (Z0 33)) && true)) rfl (by decide +kernel) ?_
  rw [(hF.mk1 (m := 34) rfl (by decide)).1]
  have hF := (hF.mk1 (m := 34) rfl (by decide)).2
  refine Rc.goL mt_800 0 (f2 := (24, [.ref 31, .int (200 : Int32), .int (200 : Int32)], [], (34, (upR (upR R 31 0 (some 32)) 31 1 (some 33)), I, L))) (b := true) rfl rfl ?_
  have hF := hF.uR (c := 31) (i := 1) (v := some 33) (by decide)
  refine Rc.goL mt_800 1 (f2 := (27, [.ref 31, .int (200 : Int32), .int (200 : Int32)], [.int (10 : Int32), .ref 31], (34, (upR (upR R 31 0 (some 32)) 31 1 (some 33)), I, L))) (b := true) rfl rfl ?_
  refine Rc.goL mt_800 0 (f2 := (29, [.ref 31, .int (200 : Int32), .int (200 : Int32)], [.ref 34, .ref 31], nw (34, (upR (upR R 31 0 (some 32)) 31 1 (some 33)), I, L))) (b := ((Nat.beq (K0 34) (kAT .int) && decide (¬ (10 : Int32) < 0) && Nat.beq (Int32.toNatClampNeg (10 : Int32)) (Z0 34)) && true)) rfl (by decide +kernel) ?_
  rw [(hF.mk1 (m := 35) rfl (by decide)).1]
  have hF := (hF.mk1 (m := 35) rfl (by decide)).2
  refine Rc.goL mt_800 0 (f2 := (32, [.ref 31, .int (200 : Int32), .int (200 : Int32)], [], (35, (upR (upR (upR R 31 0 (some 32)) 31 1 (some 33)) 31 4 (some 34)), I, L))) (b := true) rfl rfl ?_
  have hF := hF.uR (c := 31) (i := 4) (v := some 34) (by decide)
  refine Rc.goL mt_800 1 (f2 := (35, [.ref 31, .int (200 : Int32), .int (200 : Int32)], [.int (10 : Int32), .ref 31], (35, (upR (upR (upR R 31 0 (some 32)) 31 1 (some 33)) 31 4 (some 34)), I, L))) (b := true) rfl rfl ?_
  refine Rc.goL mt_800 0 (f2 := (37, [.ref 31, .int (200 : Int32), .int (200 : Int32)], [.ref 35, .ref 31], nw (35, (upR (upR (upR R 31 0 (some 32)) 31 1 (some 33)) 31 4 (some 34)), I, L))) (b := ((Nat.beq (K0 35) (kAT .int) && decide (¬ (10 : Int32) < 0) && Nat.beq (Int32.toNatClampNeg (10 : Int32)) (Z0 35)) && true)) rfl (by decide +kernel) ?_
  rw [(hF.mk1 (m := 36) rfl (by decide)).1]
  have hF := (hF.mk1 (m := 36) rfl (by decide)).2
  refine Rc.goL mt_800 0 (f2 := (40, [.ref 31, .int (200 : Int32), .int (200 : Int32)], [], (36, (upR (upR (upR (upR R 31 0 (some 32)) 31 1 (some 33)) 31 4 (some 34)) 31 5 (some 35)), I, L))) (b := true) rfl rfl ?_
  have hF := hF.uR (c := 31) (i := 5) (v := some 35) (by decide)
  refine Rc.goL mt_800 1 (f2 := (43, [.ref 31, .int (200 : Int32), .int (200 : Int32)], [.int (10 : Int32), .ref 31], (36, (upR (upR (upR (upR R 31 0 (some 32)) 31 1 (some 33)) 31 4 (some 34)) 31 5 (some 35)), I, L))) (b := true) rfl rfl ?_
  refine Rc.goL mt_800 0 (f2 := (45, [.ref 31, .int (200 : Int32), .int (200 : Int32)], [.ref 36, .ref 31], nw (36, (upR (upR (upR (upR R 31 0 (some 32)) 31 1 (some 33)) 31 4 (some 34)) 31 5 (some 35)), I, L))) (b := ((Nat.beq (K0 36) (kAT .int) && decide (¬ (10 : Int32) < 0) && Nat.beq (Int32.toNatClampNeg (10 : Int32)) (Z0 36)) && true)) rfl (by decide +kernel) ?_
  rw [(hF.mk1 (m := 37) rfl (by decide)).1]
  have hF := (hF.mk1 (m := 37) rfl (by decide)).2
  refine Rc.goL mt_800 0 (f2 := (48, [.ref 31, .int (200 : Int32), .int (200 : Int32)], [], (37, (upR (upR (upR (upR (upR R 31 0 (some 32)) 31 1 (some 33)) 31 4 (some 34)) 31 5 (some 35)) 31 6 (some 36)), I, L))) (b := true) rfl rfl ?_
  have hF := hF.uR (c := 31) (i := 6) (v := some 36) (by decide)
  refine Rc.goL mt_800 1 (f2 := (51, [.ref 31, .int (200 : Int32), .int (200 : Int32)], [.int (10 : Int32), .ref 31], (37, (upR (upR (upR (upR (upR R 31 0 (some 32)) 31 1 (some 33)) 31 4 (some 34)) 31 5 (some 35)) 31 6 (some 36)), I, L))) (b := true) rfl rfl ?_
  refine Rc.goL mt_800 0 (f2 := (53, [.ref 31, .int (200 : Int32), .int (200 : Int32)], [.ref 37, .ref 31], nw (37, (upR (upR (upR (upR (upR R 31 0 (some 32)) 31 1 (some 33)) 31 4 (some 34)) 31 5 (some 35)) 31 6 (some 36)), I, L))) (b := ((Nat.beq (K0 37) (kAT .int) && decide (¬ (10 : Int32) < 0) && Nat.beq (Int32.toNatClampNeg (10 : Int32)) (Z0 37)) && true)) rfl (by decide +kernel) ?_
  rw [(hF.mk1 (m := 38) rfl (by decide)).1]
  have hF := (hF.mk1 (m := 38) rfl (by decide)).2
  refine Rc.goL mt_800 0 (f2 := (56, [.ref 31, .int (200 : Int32), .int (200 : Int32)], [], (38, (upR (upR (upR (upR (upR (upR R 31 0 (some 32)) 31 1 (some 33)) 31 4 (some 34)) 31 5 (some 35)) 31 6 (some 36)) 31 7 (some 37)), I, L))) (b := true) rfl rfl ?_
  have hF := hF.uR (c := 31) (i := 7) (v := some 37) (by decide)
  refine Rc.goL mt_800 1 (f2 := (59, [.ref 31, .int (200 : Int32), .int (200 : Int32)], [.int (10 : Int32), .ref 31], (38, (upR (upR (upR (upR (upR (upR R 31 0 (some 32)) 31 1 (some 33)) 31 4 (some 34)) 31 5 (some 35)) 31 6 (some 36)) 31 7 (some 37)), I, L))) (b := true) rfl rfl ?_
  refine Rc.goL mt_800 0 (f2 := (61, [.ref 31, .int (200 : Int32), .int (200 : Int32)], [.ref 38, .ref 31], nw (38, (upR (upR (upR (upR (upR (upR R 31 0 (some 32)) 31 1 (some 33)) 31 4 (some 34)) 31 5 (some 35)) 31 6 (some 36)) 31 7 (some 37)), I, L))) (b := ((Nat.beq (K0 38) (kAT .int) && decide (¬ (10 : Int32) < 0) && Nat.beq (Int32.toNatClampNeg (10 : Int32)) (Z0 38)) && true)) rfl (by decide +kernel) ?_
  rw [(hF.mk1 (m := 39) rfl (by decide)).1]
  have hF := (hF.mk1 (m := 39) rfl (by decide)).2
  refine Rc.goL mt_800 0 (f2 := (64, [.ref 31, .int (200 : Int32), .int (200 : Int32)], [], (39, (upR (upR (upR (upR (upR (upR (upR R 31 0 (some 32)) 31 1 (some 33)) 31 4 (some 34)) 31 5 (some 35)) 31 6 (some 36)) 31 7 (some 37)) 31 8 (some 38)), I, L))) (b := true) rfl rfl ?_
  have hF := hF.uR (c := 31) (i := 8) (v := some 38) (by decide)
  exact Rc.ret (v := none) rfl rfl
def rn_800_39 (R : MR) : MR := (upR (upR (upR (upR (upR (upR (upR R 39 0 (some 40)) 39 1 (some 41)) 39 4 (some 42)) 39 5 (some 43)) 39 6 (some 44)) 39 7 (some 45)) 39 8 (some 46))
theorem rn_800_39_o {R : MR} {k : Nat} {x : Option Nat} (h : R 12 k = x) : rn_800_39 R 12 k = x := upR_o rfl (upR_o rfl (upR_o rfl (upR_o rfl (upR_o rfl (upR_o rfl (upR_o rfl h))))))
theorem cf_800_39 {R : MR} {I : MI} {L : ML} (hF : FM 40 R I L) : FM 47 (rn_800_39 R) I L := by
  have hF := (hF.mk1 (m := 41) rfl (by decide)).2
  have hF := hF.uR (c := 39) (i := 0) (v := some 40) (by decide)
  have hF := (hF.mk1 (m := 42) rfl (by decide)).2
  have hF := hF.uR (c := 39) (i := 1) (v := some 41) (by decide)
  have hF := (hF.mk1 (m := 43) rfl (by decide)).2
  have hF := hF.uR (c := 39) (i := 4) (v := some 42) (by decide)
  have hF := (hF.mk1 (m := 44) rfl (by decide)).2
  have hF := hF.uR (c := 39) (i := 5) (v := some 43) (by decide)
  have hF := (hF.mk1 (m := 45) rfl (by decide)).2
  have hF := hF.uR (c := 39) (i := 6) (v := some 44) (by decide)
  have hF := (hF.mk1 (m := 46) rfl (by decide)).2
  have hF := hF.uR (c := 39) (i := 7) (v := some 45) (by decide)
  have hF := (hF.mk1 (m := 47) rfl (by decide)).2
  have hF := hF.uR (c := 39) (i := 8) (v := some 46) (by decide)
  exact hF
set_option maxRecDepth 20000 in
theorem cn_800_39 {d : Nat} (hd : 1 ≤ d) {R : MR} {I : MI} {L : ML} (hF : FM 40 R I L) : Ex d 800 [.ref 39, .int (60 : Int32)] (40, R, I, L) (none, (47, rn_800_39 R, I, L)) := by
  obtain ⟨d, rfl⟩ : ∃ d0, d = d0 + 1 := ⟨d - 1, by omega⟩
  refine Ex.of okm_800 (by omega) (Nat.le_of_ble_eq_true rfl) ?_
  show Rc (d + 1) 800 (0, [.ref 39, .int (60 : Int32), UU], [], (40, R, I, L)) _
  refine Rc.goL mt_800 4 (f2 := (9, [.ref 39, .int (60 : Int32), UU], [.int ((imx (0 : Int32) (60 : Int32)))], (40, R, I, L))) (b := true) rfl rfl ?_
  rw [show imx (0 : Int32) (60 : Int32) = 60 from by decide]
  refine Rc.goL mt_800 2 (f2 := (12, [.ref 39, .int (60 : Int32), .int (60 : Int32)], [.int (60 : Int32), .ref 39], (40, R, I, L))) (b := true) rfl rfl ?_
  refine Rc.goL mt_800 0 (f2 := (14, [.ref 39, .int (60 : Int32), .int (60 : Int32)], [.ref 40, .ref 39], nw (40, R, I, L))) (b := ((Nat.beq (K0 40) (kAT .char) && decide (¬ (60 : Int32) < 0) && Nat.beq (Int32.toNatClampNeg (60 : Int32)) (Z0 40)) && true)) rfl (by decide +kernel) ?_
  rw [(hF.mk1 (m := 41) rfl (by decide)).1]
  have hF := (hF.mk1 (m := 41) rfl (by decide)).2
  refine Rc.goL mt_800 0 (f2 := (17, [.ref 39, .int (60 : Int32), .int (60 : Int32)], [], (41, (upR R 39 0 (some 40)), I, L))) (b := true) rfl rfl ?_
  have hF := hF.uR (c := 39) (i := 0) (v := some 40) (by decide)
  refine Rc.goL mt_800 1 (f2 := (19, [.ref 39, .int (60 : Int32), .int (60 : Int32)], [.int (60 : Int32), .ref 39], (41, (upR R 39 0 (some 40)), I, L))) (b := true) rfl rfl ?_
  refine Rc.goL mt_800 0 (f2 := (21, [.ref 39, .int (60 : Int32), .int (60 : Int32)], [.ref 41, .ref 39], nw (41, (upR R 39 0 (some 40)), I, L))) (b := ((Nat.beq (K0 41) (kAT .int) && decide (¬ (60 : Int32) < 0) && Nat.beq (Int32.toNatClampNeg (60 : Int32)) (Z0 41)) && true)) rfl (by decide +kernel) ?_
  rw [(hF.mk1 (m := 42) rfl (by decide)).1]
  have hF := (hF.mk1 (m := 42) rfl (by decide)).2
  refine Rc.goL mt_800 0 (f2 := (24, [.ref 39, .int (60 : Int32), .int (60 : Int32)], [], (42, (upR (upR R 39 0 (some 40)) 39 1 (some 41)), I, L))) (b := true) rfl rfl ?_
  have hF := hF.uR (c := 39) (i := 1) (v := some 41) (by decide)
  refine Rc.goL mt_800 1 (f2 := (27, [.ref 39, .int (60 : Int32), .int (60 : Int32)], [.int (10 : Int32), .ref 39], (42, (upR (upR R 39 0 (some 40)) 39 1 (some 41)), I, L))) (b := true) rfl rfl ?_
  refine Rc.goL mt_800 0 (f2 := (29, [.ref 39, .int (60 : Int32), .int (60 : Int32)], [.ref 42, .ref 39], nw (42, (upR (upR R 39 0 (some 40)) 39 1 (some 41)), I, L))) (b := ((Nat.beq (K0 42) (kAT .int) && decide (¬ (10 : Int32) < 0) && Nat.beq (Int32.toNatClampNeg (10 : Int32)) (Z0 42)) && true)) rfl (by decide +kernel) ?_
  rw [(hF.mk1 (m := 43) rfl (by decide)).1]
  have hF := (hF.mk1 (m := 43) rfl (by decide)).2
  refine Rc.goL mt_800 0 (f2 := (32, [.ref 39, .int (60 : Int32), .int (60 : Int32)], [], (43, (upR (upR (upR R 39 0 (some 40)) 39 1 (some 41)) 39 4 (some 42)), I, L))) (b := true) rfl rfl ?_
  have hF := hF.uR (c := 39) (i := 4) (v := some 42) (by decide)
  refine Rc.goL mt_800 1 (f2 := (35, [.ref 39, .int (60 : Int32), .int (60 : Int32)], [.int (10 : Int32), .ref 39], (43, (upR (upR (upR R 39 0 (some 40)) 39 1 (some 41)) 39 4 (some 42)), I, L))) (b := true) rfl rfl ?_
  refine Rc.goL mt_800 0 (f2 := (37, [.ref 39, .int (60 : Int32), .int (60 : Int32)], [.ref 43, .ref 39], nw (43, (upR (upR (upR R 39 0 (some 40)) 39 1 (some 41)) 39 4 (some 42)), I, L))) (b := ((Nat.beq (K0 43) (kAT .int) && decide (¬ (10 : Int32) < 0) && Nat.beq (Int32.toNatClampNeg (10 : Int32)) (Z0 43)) && true)) rfl (by decide +kernel) ?_
  rw [(hF.mk1 (m := 44) rfl (by decide)).1]
  have hF := (hF.mk1 (m := 44) rfl (by decide)).2
  refine Rc.goL mt_800 0 (f2 := (40, [.ref 39, .int (60 : Int32), .int (60 : Int32)], [], (44, (upR (upR (upR (upR R 39 0 (some 40)) 39 1 (some 41)) 39 4 (some 42)) 39 5 (some 43)), I, L))) (b := true) rfl rfl ?_
  have hF := hF.uR (c := 39) (i := 5) (v := some 43) (by decide)
  refine Rc.goL mt_800 1 (f2 := (43, [.ref 39, .int (60 : Int32), .int (60 : Int32)], [.int (10 : Int32), .ref 39], (44, (upR (upR (upR (upR R 39 0 (some 40)) 39 1 (some 41)) 39 4 (some 42)) 39 5 (some 43)), I, L))) (b := true) rfl rfl ?_
  refine Rc.goL mt_800 0 (f2 := (45, [.ref 39, .int (60 : Int32), .int (60 : Int32)], [.ref 44, .ref 39], nw (44, (upR (upR (upR (upR R 39 0 (some 40)) 39 1 (some 41)) 39 4 (some 42)) 39 5 (some 43)), I, L))) (b := ((Nat.beq (K0 44) (kAT .int) && decide (¬ (10 : Int32) < 0) && Nat.beq (Int32.toNatClampNeg (10 : Int32)) (Z0 44)) && true)) rfl (by decide +kernel) ?_
  rw [(hF.mk1 (m := 45) rfl (by decide)).1]
  have hF := (hF.mk1 (m := 45) rfl (by decide)).2
  refine Rc.goL mt_800 0 (f2 := (48, [.ref 39, .int (60 : Int32), .int (60 : Int32)], [], (45, (upR (upR (upR (upR (upR R 39 0 (some 40)) 39 1 (some 41)) 39 4 (some 42)) 39 5 (some 43)) 39 6 (some 44)), I, L))) (b := true) rfl rfl ?_
  have hF := hF.uR (c := 39) (i := 6) (v := some 44) (by decide)
  refine Rc.goL mt_800 1 (f2 := (51, [.ref 39, .int (60 : Int32), .int (60 : Int32)], [.int (10 : Int32), .ref 39], (45, (upR (upR (upR (upR (upR R 39 0 (some 40)) 39 1 (some 41)) 39 4 (some 42)) 39 5 (some 43)) 39 6 (some 44)), I, L))) (b := true) rfl rfl ?_
  refine Rc.goL mt_800 0 (f2 := (53, [.ref 39, .int (60 : Int32), .int (60 : Int32)], [.ref 45, .ref 39], nw (45, (upR (upR (upR (upR (upR R 39 0 (some 40)) 39 1 (some 41)) 39 4 (some 42)) 39 5 (some 43)) 39 6 (some 44)), I, L))) (b := ((Nat.beq (K0 45) (kAT .int) && decide (¬ (10 : Int32) < 0) && Nat.beq (Int32.toNatClampNeg (10 : Int32)) (Z0 45)) && true)) rfl (by decide +kernel) ?_
  rw [(hF.mk1 (m := 46) rfl (by decide)).1]
  have hF := (hF.mk1 (m := 46) rfl (by decide)).2
  refine Rc.goL mt_800 0 (f2 := (56, [.ref 39, .int (60 : Int32), .int (60 : Int32)], [], (46, (upR (upR (upR (upR (upR (upR R 39 0 (some 40)) 39 1 (some 41)) 39 4 (some 42)) 39 5 (some 43)) 39 6 (some 44)) 39 7 (some 45)), I, L))) (b := true) rfl rfl ?_
  have hF := hF.uR (c := 39) (i := 7) (v := some 45) (by decide)
  refine Rc.goL mt_800 1 (f2 := (59, [.ref 39, .int (60 : Int32), .int (60 : Int32)], [.int (10 : Int32), .ref 39], (46, (upR (upR (upR (upR (upR (upR R 39 0 (some 40)) 39 1 (some 41)) 39 4 (some 42)) 39 5 (some 43)) 39 6 (some 44)) 39 7 (some 45)), I, L))) (b := true) rfl rfl ?_
  refine Rc.goL mt_800 0 (f2 := (61, [.ref 39, .int (60 : Int32), .int (60 : Int32)], [.ref 46, .ref 39], nw (46, (upR (upR (upR (upR (upR (upR R 39 0 (some 40)) 39 1 (some 41)) 39 4 (some 42)) 39 5 (some 43)) 39 6 (some 44)) 39 7 (some 45)), I, L))) (b := ((Nat.beq (K0 46) (kAT .int) && decide (¬ (10 : Int32) < 0) && Nat.beq (Int32.toNatClampNeg (10 : Int32)) (Z0 46)) && true)) rfl (by decide +kernel) ?_
  rw [(hF.mk1 (m := 47) rfl (by decide)).1]
  have hF := (hF.mk1 (m := 47) rfl (by decide)).2
  refine Rc.goL mt_800 0 (f2 := (64, [.ref 39, .int (60 : Int32), .int (60 : Int32)], [], (47, (upR (upR (upR (upR (upR (upR (upR R 39 0 (some 40)) 39 1 (some 41)) 39 4 (some 42)) 39 5 (some 43)) 39 6 (some 44)) 39 7 (some 45)) 39 8 (some 46)), I, L))) (b := true) rfl rfl ?_
  have hF := hF.uR (c := 39) (i := 8) (v := some 46) (by decide)
  exact Rc.ret (v := none) rfl rfl
def rn_800_47 (R : MR) : MR := (upR (upR (upR (upR (upR (upR (upR R 47 0 (some 48)) 47 1 (some 49)) 47 4 (some 50)) 47 5 (some 51)) 47 6 (some 52)) 47 7 (some 53)) 47 8 (some 54))
theorem rn_800_47_o {R : MR} {k : Nat} {x : Option Nat} (h : R 12 k = x) : rn_800_47 R 12 k = x := upR_o rfl (upR_o rfl (upR_o rfl (upR_o rfl (upR_o rfl (upR_o rfl (upR_o rfl h))))))
theorem cf_800_47 {R : MR} {I : MI} {L : ML} (hF : FM 48 R I L) : FM 55 (rn_800_47 R) I L := by
  have hF := (hF.mk1 (m := 49) rfl (by decide)).2
  have hF := hF.uR (c := 47) (i := 0) (v := some 48) (by decide)
  have hF := (hF.mk1 (m := 50) rfl (by decide)).2
  have hF := hF.uR (c := 47) (i := 1) (v := some 49) (by decide)
  have hF := (hF.mk1 (m := 51) rfl (by decide)).2
  have hF := hF.uR (c := 47) (i := 4) (v := some 50) (by decide)
  have hF := (hF.mk1 (m := 52) rfl (by decide)).2
  have hF := hF.uR (c := 47) (i := 5) (v := some 51) (by decide)
  have hF := (hF.mk1 (m := 53) rfl (by decide)).2
  have hF := hF.uR (c := 47) (i := 6) (v := some 52) (by decide)
  have hF := (hF.mk1 (m := 54) rfl (by decide)).2
  have hF := hF.uR (c := 47) (i := 7) (v := some 53) (by decide)
  have hF := (hF.mk1 (m := 55) rfl (by decide)).2
  have hF := hF.uR (c := 47) (i := 8) (v := some 54) (by decide)
  exact hF
set_option maxRecDepth 20000 in
theorem cn_800_47 {d : Nat} (hd : 1 ≤ d) {R : MR} {I : MI} {L : ML} (hF : FM 48 R I L) : Ex d 800 [.ref 47, .int (200 : Int32)] (48, R, I, L) (none, (55, rn_800_47 R, I, L)) := by
  obtain ⟨d, rfl⟩ : ∃ d0, d = d0 + 1 := ⟨d - 1, by omega⟩
  refine Ex.of okm_800 (by omega) (Nat.le_of_ble_eq_true rfl) ?_
  show Rc (d + 1) 800 (0, [.ref 47, .int (200 : Int32), UU], [], (48, R, I, L)) _
  refine Rc.goL mt_800 4 (f2 := (9, [.ref 47, .int (200 : Int32), UU], [.int ((imx (0 : Int32) (200 : Int32)))], (48, R, I, L))) (b := true) rfl rfl ?_
  rw [show imx (0 : Int32) (200 : Int32) = 200 from by decide]
  refine Rc.goL mt_800 2 (f2 := (12, [.ref 47, .int (200 : Int32), .int (200 : Int32)], [.int (200 : Int32), .ref 47], (48, R, I, L))) (b := true) rfl rfl ?_
  refine Rc.goL mt_800 0 (f2 := (14, [.ref 47, .int (200 : Int32), .int (200 : Int32)], [.ref 48, .ref 47], nw (48, R, I, L))) (b := ((Nat.beq (K0 48) (kAT .char) && decide (¬ (200 : Int32) < 0) && Nat.beq (Int32.toNatClampNeg (200 : Int32)) (Z0 48)) && true)) rfl (by decide +kernel) ?_
  rw [(hF.mk1 (m := 49) rfl (by decide)).1]
  have hF := (hF.mk1 (m := 49) rfl (by decide)).2
  refine Rc.goL mt_800 0 (f2 := (17, [.ref 47, .int (200 : Int32), .int (200 : Int32)], [], (49, (upR R 47 0 (some 48)), I, L))) (b := true) rfl rfl ?_
  have hF := hF.uR (c := 47) (i := 0) (v := some 48) (by decide)
  refine Rc.goL mt_800 1 (f2 := (19, [.ref 47, .int (200 : Int32), .int (200 : Int32)], [.int (200 : Int32), .ref 47], (49, (upR R 47 0 (some 48)), I, L))) (b := true) rfl rfl ?_
  refine Rc.goL mt_800 0 (f2 := (21, [.ref 47, .int (200 : Int32), .int (200 : Int32)], [.ref 49, .ref 47], nw (49, (upR R 47 0 (some 48)), I, L))) (b := ((Nat.beq (K0 49) (kAT .int) && decide (¬ (200 : Int32) < 0) && Nat.beq (Int32.toNatClampNeg (200 : Int32)) (Z0 49)) && true)) rfl (by decide +kernel) ?_
  rw [(hF.mk1 (m := 50) rfl (by decide)).1]
  have hF := (hF.mk1 (m := 50) rfl (by decide)).2
  refine Rc.goL mt_800 0 (f2 := (24, [.ref 47, .int (200 : Int32), .int (200 : Int32)], [], (50, (upR (upR R 47 0 (some 48)) 47 1 (some 49)), I, L))) (b := true) rfl rfl ?_
  have hF := hF.uR (c := 47) (i := 1) (v := some 49) (by decide)
  refine Rc.goL mt_800 1 (f2 := (27, [.ref 47, .int (200 : Int32), .int (200 : Int32)], [.int (10 : Int32), .ref 47], (50, (upR (upR R 47 0 (some 48)) 47 1 (some 49)), I, L))) (b := true) rfl rfl ?_
  refine Rc.goL mt_800 0 (f2 := (29, [.ref 47, .int (200 : Int32), .int (200 : Int32)], [.ref 50, .ref 47], nw (50, (upR (upR R 47 0 (some 48)) 47 1 (some 49)), I, L))) (b := ((Nat.beq (K0 50) (kAT .int) && decide (¬ (10 : Int32) < 0) && Nat.beq (Int32.toNatClampNeg (10 : Int32)) (Z0 50)) && true)) rfl (by decide +kernel) ?_
  rw [(hF.mk1 (m := 51) rfl (by decide)).1]
  have hF := (hF.mk1 (m := 51) rfl (by decide)).2
  refine Rc.goL mt_800 0 (f2 := (32, [.ref 47, .int (200 : Int32), .int (200 : Int32)], [], (51, (upR (upR (upR R 47 0 (some 48)) 47 1 (some 49)) 47 4 (some 50)), I, L))) (b := true) rfl rfl ?_
  have hF := hF.uR (c := 47) (i := 4) (v := some 50) (by decide)
  refine Rc.goL mt_800 1 (f2 := (35, [.ref 47, .int (200 : Int32), .int (200 : Int32)], [.int (10 : Int32), .ref 47], (51, (upR (upR (upR R 47 0 (some 48)) 47 1 (some 49)) 47 4 (some 50)), I, L))) (b := true) rfl rfl ?_
  refine Rc.goL mt_800 0 (f2 := (37, [.ref 47, .int (200 : Int32), .int (200 : Int32)], [.ref 51, .ref 47], nw (51, (upR (upR (upR R 47 0 (some 48)) 47 1 (some 49)) 47 4 (some 50)), I, L))) (b := ((Nat.beq (K0 51) (kAT .int) && decide (¬ (10 : Int32) < 0) && Nat.beq (Int32.toNatClampNeg (10 : Int32)) (Z0 51)) && true)) rfl (by decide +kernel) ?_
  rw [(hF.mk1 (m := 52) rfl (by decide)).1]
  have hF := (hF.mk1 (m := 52) rfl (by decide)).2
  refine Rc.goL mt_800 0 (f2 := (40, [.ref 47, .int (200 : Int32), .int (200 : Int32)], [], (52, (upR (upR (upR (upR R 47 0 (some 48)) 47 1 (some 49)) 47 4 (some 50)) 47 5 (some 51)), I, L))) (b := true) rfl rfl ?_
  have hF := hF.uR (c := 47) (i := 5) (v := some 51) (by decide)
  refine Rc.goL mt_800 1 (f2 := (43, [.ref 47, .int (200 : Int32), .int (200 : Int32)], [.int (10 : Int32), .ref 47], (52, (upR (upR (upR (upR R 47 0 (some 48)) 47 1 (some 49)) 47 4 (some 50)) 47 5 (some 51)), I, L))) (b := true) rfl rfl ?_
  refine Rc.goL mt_800 0 (f2 := (45, [.ref 47, .int (200 : Int32), .int (200 : Int32)], [.ref 52, .ref 47], nw (52, (upR (upR (upR (upR R 47 0 (some 48)) 47 1 (some 49)) 47 4 (some 50)) 47 5 (some 51)), I, L))) (b := ((Nat.beq (K0 52) (kAT .int) && decide (¬ (10 : Int32) < 0) && Nat.beq (Int32.toNatClampNeg (10 : Int32)) (Z0 52)) && true)) rfl (by decide +kernel) ?_
  rw [(hF.mk1 (m := 53) rfl (by decide)).1]
  have hF := (hF.mk1 (m := 53) rfl (by decide)).2
  refine Rc.goL mt_800 0 (f2 := (48, [.ref 47, .int (200 : Int32), .int (200 : Int32)], [], (53, (upR (upR (upR (upR (upR R 47 0 (some 48)) 47 1 (some 49)) 47 4 (some 50)) 47 5 (some 51)) 47 6 (some 52)), I, L))) (b := true) rfl rfl ?_
  have hF := hF.uR (c := 47) (i := 6) (v := some 52) (by decide)
  refine Rc.goL mt_800 1 (f2 := (51, [.ref 47, .int (200 : Int32), .int (200 : Int32)], [.int (10 : Int32), .ref 47], (53, (upR (upR (upR (upR (upR R 47 0 (some 48)) 47 1 (some 49)) 47 4 (some 50)) 47 5 (some 51)) 47 6 (some 52)), I, L))) (b := true) rfl rfl ?_
  refine Rc.goL mt_800 0 (f2 := (53, [.ref 47, .int (200 : Int32), .int (200 : Int32)], [.ref 53, .ref 47], nw (53, (upR (upR (upR (upR (upR R 47 0 (some 48)) 47 1 (some 49)) 47 4 (some 50)) 47 5 (some 51)) 47 6 (some 52)), I, L))) (b := ((Nat.beq (K0 53) (kAT .int) && decide (¬ (10 : Int32) < 0) && Nat.beq (Int32.toNatClampNeg (10 : Int32)) (Z0 53)) && true)) rfl (by decide +kernel) ?_
  rw [(hF.mk1 (m := 54) rfl (by decide)).1]
  have hF := (hF.mk1 (m := 54) rfl (by decide)).2
  refine Rc.goL mt_800 0 (f2 := (56, [.ref 47, .int (200 : Int32), .int (200 : Int32)], [], (54, (upR (upR (upR (upR (upR (upR R 47 0 (some 48)) 47 1 (some 49)) 47 4 (some 50)) 47 5 (some 51)) 47 6 (some 52)) 47 7 (some 53)), I, L))) (b := true) rfl rfl ?_
  have hF := hF.uR (c := 47) (i := 7) (v := some 53) (by decide)
  refine Rc.goL mt_800 1 (f2 := (59, [.ref 47, .int (200 : Int32), .int (200 : Int32)], [.int (10 : Int32), .ref 47], (54, (upR (upR (upR (upR (upR (upR R 47 0 (some 48)) 47 1 (some 49)) 47 4 (some 50)) 47 5 (some 51)) 47 6 (some 52)) 47 7 (some 53)), I, L))) (b := true) rfl rfl ?_
  refine Rc.goL mt_800 0 (f2 := (61, [.ref 47, .int (200 : Int32), .int (200 : Int32)], [.ref 54, .ref 47], nw (54, (upR (upR (upR (upR (upR (upR R 47 0 (some 48)) 47 1 (some 49)) 47 4 (some 50)) 47 5 (some 51)) 47 6 (some 52)) 47 7 (some 53)), I, L))) (b := ((Nat.beq (K0 54) (kAT .int) && decide (¬ (10 : Int32) < 0) && Nat.beq (Int32.toNatClampNeg (10 : Int32)) (Z0 54)) && true)) rfl (by decide +kernel) ?_
  rw [(hF.mk1 (m := 55) rfl (by decide)).1]
  have hF := (hF.mk1 (m := 55) rfl (by decide)).2
  refine Rc.goL mt_800 0 (f2 := (64, [.ref 47, .int (200 : Int32), .int (200 : Int32)], [], (55, (upR (upR (upR (upR (upR (upR (upR R 47 0 (some 48)) 47 1 (some 49)) 47 4 (some 50)) 47 5 (some 51)) 47 6 (some 52)) 47 7 (some 53)) 47 8 (some 54)), I, L))) (b := true) rfl rfl ?_
  have hF := hF.uR (c := 47) (i := 8) (v := some 54) (by decide)
  exact Rc.ret (v := none) rfl rfl
def rn_800_55 (R : MR) : MR := (upR (upR (upR (upR (upR (upR (upR R 55 0 (some 56)) 55 1 (some 57)) 55 4 (some 58)) 55 5 (some 59)) 55 6 (some 60)) 55 7 (some 61)) 55 8 (some 62))
theorem rn_800_55_o {R : MR} {k : Nat} {x : Option Nat} (h : R 12 k = x) : rn_800_55 R 12 k = x := upR_o rfl (upR_o rfl (upR_o rfl (upR_o rfl (upR_o rfl (upR_o rfl (upR_o rfl h))))))
theorem cf_800_55 {R : MR} {I : MI} {L : ML} (hF : FM 56 R I L) : FM 63 (rn_800_55 R) I L := by
  have hF := (hF.mk1 (m := 57) rfl (by decide)).2
  have hF := hF.uR (c := 55) (i := 0) (v := some 56) (by decide)
  have hF := (hF.mk1 (m := 58) rfl (by decide)).2
  have hF := hF.uR (c := 55) (i := 1) (v := some 57) (by decide)
  have hF := (hF.mk1 (m := 59) rfl (by decide)).2
  have hF := hF.uR (c := 55) (i := 4) (v := some 58) (by decide)
  have hF := (hF.mk1 (m := 60) rfl (by decide)).2
  have hF := hF.uR (c := 55) (i := 5) (v := some 59) (by decide)
  have hF := (hF.mk1 (m := 61) rfl (by decide)).2
  have hF := hF.uR (c := 55) (i := 6) (v := some 60) (by decide)
  have hF := (hF.mk1 (m := 62) rfl (by decide)).2
  have hF := hF.uR (c := 55) (i := 7) (v := some 61) (by decide)
  have hF := (hF.mk1 (m := 63) rfl (by decide)).2
  have hF := hF.uR (c := 55) (i := 8) (v := some 62) (by decide)
  exact hF
set_option maxRecDepth 20000 in
theorem cn_800_55 {d : Nat} (hd : 1 ≤ d) {R : MR} {I : MI} {L : ML} (hF : FM 56 R I L) : Ex d 800 [.ref 55, .int (60 : Int32)] (56, R, I, L) (none, (63, rn_800_55 R, I, L)) := by
  obtain ⟨d, rfl⟩ : ∃ d0, d = d0 + 1 := ⟨d - 1, by omega⟩
  refine Ex.of okm_800 (by omega) (Nat.le_of_ble_eq_true rfl) ?_
  show Rc (d + 1) 800 (0, [.ref 55, .int (60 : Int32), UU], [], (56, R, I, L)) _
  refine Rc.goL mt_800 4 (f2 := (9, [.ref 55, .int (60 : Int32), UU], [.int ((imx (0 : Int32) (60 : Int32)))], (56, R, I, L))) (b := true) rfl rfl ?_
  rw [show imx (0 : Int32) (60 : Int32) = 60 from by decide]
  refine Rc.goL mt_800 2 (f2 := (12, [.ref 55, .int (60 : Int32), .int (60 : Int32)], [.int (60 : Int32), .ref 55], (56, R, I, L))) (b := true) rfl rfl ?_
  refine Rc.goL mt_800 0 (f2 := (14, [.ref 55, .int (60 : Int32), .int (60 : Int32)], [.ref 56, .ref 55], nw (56, R, I, L))) (b := ((Nat.beq (K0 56) (kAT .char) && decide (¬ (60 : Int32) < 0) && Nat.beq (Int32.toNatClampNeg (60 : Int32)) (Z0 56)) && true)) rfl (by decide +kernel) ?_
  rw [(hF.mk1 (m := 57) rfl (by decide)).1]
  have hF := (hF.mk1 (m := 57) rfl (by decide)).2
  refine Rc.goL mt_800 0 (f2 := (17, [.ref 55, .int (60 : Int32), .int (60 : Int32)], [], (57, (upR R 55 0 (some 56)), I, L))) (b := true) rfl rfl ?_
  have hF := hF.uR (c := 55) (i := 0) (v := some 56) (by decide)
  refine Rc.goL mt_800 1 (f2 := (19, [.ref 55, .int (60 : Int32), .int (60 : Int32)], [.int (60 : Int32), .ref 55], (57, (upR R 55 0 (some 56)), I, L))) (b := true) rfl rfl ?_
  refine Rc.goL mt_800 0 (f2 := (21, [.ref 55, .int (60 : Int32), .int (60 : Int32)], [.ref 57, .ref 55], nw (57, (upR R 55 0 (some 56)), I, L))) (b := ((Nat.beq (K0 57) (kAT .int) && decide (¬ (60 : Int32) < 0) && Nat.beq (Int32.toNatClampNeg (60 : Int32)) (Z0 57)) && true)) rfl (by decide +kernel) ?_
  rw [(hF.mk1 (m := 58) rfl (by decide)).1]
  have hF := (hF.mk1 (m := 58) rfl (by decide)).2
  refine Rc.goL mt_800 0 (f2 := (24, [.ref 55, .int (60 : Int32), .int (60 : Int32)], [], (58, (upR (upR R 55 0 (some 56)) 55 1 (some 57)), I, L))) (b := true) rfl rfl ?_
  have hF := hF.uR (c := 55) (i := 1) (v := some 57) (by decide)
  refine Rc.goL mt_800 1 (f2 := (27, [.ref 55, .int (60 : Int32), .int (60 : Int32)], [.int (10 : Int32), .ref 55], (58, (upR (upR R 55 0 (some 56)) 55 1 (some 57)), I, L))) (b := true) rfl rfl ?_
  refine Rc.goL mt_800 0 (f2 := (29, [.ref 55, .int (60 : Int32), .int (60 : Int32)], [.ref 58, .ref 55], nw (58, (upR (upR R 55 0 (some 56)) 55 1 (some 57)), I, L))) (b := ((Nat.beq (K0 58) (kAT .int) && decide (¬ (10 : Int32) < 0) && Nat.beq (Int32.toNatClampNeg (10 : Int32)) (Z0 58)) && true)) rfl (by decide +kernel) ?_
  rw [(hF.mk1 (m := 59) rfl (by decide)).1]
  have hF := (hF.mk1 (m := 59) rfl (by decide)).2
  refine Rc.goL mt_800 0 (f2 := (32, [.ref 55, .int (60 : Int32), .int (60 : Int32)], [], (59, (upR (upR (upR R 55 0 (some 56)) 55 1 (some 57)) 55 4 (some 58)), I, L))) (b := true) rfl rfl ?_
  have hF := hF.uR (c := 55) (i := 4) (v := some 58) (by decide)
  refine Rc.goL mt_800 1 (f2 := (35, [.ref 55, .int (60 : Int32), .int (60 : Int32)], [.int (10 : Int32), .ref 55], (59, (upR (upR (upR R 55 0 (some 56)) 55 1 (some 57)) 55 4 (some 58)), I, L))) (b := true) rfl rfl ?_
  refine Rc.goL mt_800 0 (f2 := (37, [.ref 55, .int (60 : Int32), .int (60 : Int32)], [.ref 59, .ref 55], nw (59, (upR (upR (upR R 55 0 (some 56)) 55 1 (some 57)) 55 4 (some 58)), I, L))) (b := ((Nat.beq (K0 59) (kAT .int) && decide (¬ (10 : Int32) < 0) && Nat.beq (Int32.toNatClampNeg (10 : Int32)) (Z0 59)) && true)) rfl (by decide +kernel) ?_
  rw [(hF.mk1 (m := 60) rfl (by decide)).1]
  have hF := (hF.mk1 (m := 60) rfl (by decide)).2
  refine Rc.goL mt_800 0 (f2 := (40, [.ref 55, .int (60 : Int32), .int (60 : Int32)], [], (60, (upR (upR (upR (upR R 55 0 (some 56)) 55 1 (some 57)) 55 4 (some 58)) 55 5 (some 59)), I, L))) (b := true) rfl rfl ?_
  have hF := hF.uR (c := 55) (i := 5) (v := some 59) (by decide)
  refine Rc.goL mt_800 1 (f2 := (43, [.ref 55, .int (60 : Int32), .int (60 : Int32)], [.int (10 : Int32), .ref 55], (60, (upR (upR (upR (upR R 55 0 (some 56)) 55 1 (some 57)) 55 4 (some 58)) 55 5 (some 59)), I, L))) (b := true) rfl rfl ?_
  refine Rc.goL mt_800 0 (f2 := (45, [.ref 55, .int (60 : Int32), .int (60 : Int32)], [.ref 60, .ref 55], nw (60, (upR (upR (upR (upR R 55 0 (some 56)) 55 1 (some 57)) 55 4 (some 58)) 55 5 (some 59)), I, L))) (b := ((Nat.beq (K0 60) (kAT .int) && decide (¬ (10 : Int32) < 0) && Nat.beq (Int32.toNatClampNeg (10 : Int32)) (Z0 60)) && true)) rfl (by decide +kernel) ?_
  rw [(hF.mk1 (m := 61) rfl (by decide)).1]
  have hF := (hF.mk1 (m := 61) rfl (by decide)).2
  refine Rc.goL mt_800 0 (f2 := (48, [.ref 55, .int (60 : Int32), .int (60 : Int32)], [], (61, (upR (upR (upR (upR (upR R 55 0 (some 56)) 55 1 (some 57)) 55 4 (some 58)) 55 5 (some 59)) 55 6 (some 60)), I, L))) (b := true) rfl rfl ?_
  have hF := hF.uR (c := 55) (i := 6) (v := some 60) (by decide)
  refine Rc.goL mt_800 1 (f2 := (51, [.ref 55, .int (60 : Int32), .int (60 : Int32)], [.int (10 : Int32), .ref 55], (61, (upR (upR (upR (upR (upR R 55 0 (some 56)) 55 1 (some 57)) 55 4 (some 58)) 55 5 (some 59)) 55 6 (some 60)), I, L))) (b := true) rfl rfl ?_
  refine Rc.goL mt_800 0 (f2 := (53, [.ref 55, .int (60 : Int32), .int (60 : Int32)], [.ref 61, .ref 55], nw (61, (upR (upR (upR (upR (upR R 55 0 (some 56)) 55 1 (some 57)) 55 4 (some 58)) 55 5 (some 59)) 55 6 (some 60)), I, L))) (b := ((Nat.beq (K0 61) (kAT .int) && decide (¬ (10 : Int32) < 0) && Nat.beq (Int32.toNatClampNeg (10 : Int32)) (Z0 61)) && true)) rfl (by decide +kernel) ?_
  rw [(hF.mk1 (m := 62) rfl (by decide)).1]
  have hF := (hF.mk1 (m := 62) rfl (by decide)).2
  refine Rc.goL mt_800 0 (f2 := (56, [.ref 55, .int (60 : Int32), .int (60 : Int32)], [], (62, (upR (upR (upR (upR (upR (upR R 55 0 (some 56)) 55 1 (some 57)) 55 4 (some 58)) 55 5 (some 59)) 55 6 (some 60)) 55 7 (some 61)), I, L))) (b := true) rfl rfl ?_
  have hF := hF.uR (c := 55) (i := 7) (v := some 61) (by decide)
  refine Rc.goL mt_800 1 (f2 := (59, [.ref 55, .int (60 : Int32), .int (60 : Int32)], [.int (10 : Int32), .ref 55], (62, (upR (upR (upR (upR (upR (upR R 55 0 (some 56)) 55 1 (some 57)) 55 4 (some 58)) 55 5 (some 59)) 55 6 (some 60)) 55 7 (some 61)), I, L))) (b := true) rfl rfl ?_
  refine Rc.goL mt_800 0 (f2 := (61, [.ref 55, .int (60 : Int32), .int (60 : Int32)], [.ref 62, .ref 55], nw (62, (upR (upR (upR (upR (upR (upR R 55 0 (some 56)) 55 1 (some 57)) 55 4 (some 58)) 55 5 (some 59)) 55 6 (some 60)) 55 7 (some 61)), I, L))) (b := ((Nat.beq (K0 62) (kAT .int) && decide (¬ (10 : Int32) < 0) && Nat.beq (Int32.toNatClampNeg (10 : Int32)) (Z0 62)) && true)) rfl (by decide +kernel) ?_
  rw [(hF.mk1 (m := 63) rfl (by decide)).1]
  have hF := (hF.mk1 (m := 63) rfl (by decide)).2
  refine Rc.goL mt_800 0 (f2 := (64, [.ref 55, .int (60 : Int32), .int (60 : Int32)], [], (63, (upR (upR (upR (upR (upR (upR (upR R 55 0 (some 56)) 55 1 (some 57)) 55 4 (some 58)) 55 5 (some 59)) 55 6 (some 60)) 55 7 (some 61)) 55 8 (some 62)), I, L))) (b := true) rfl rfl ?_
  have hF := hF.uR (c := 55) (i := 8) (v := some 62) (by decide)
  exact Rc.ret (v := none) rfl rfl
def rn_800_63 (R : MR) : MR := (upR (upR (upR (upR (upR (upR (upR R 63 0 (some 64)) 63 1 (some 65)) 63 4 (some 66)) 63 5 (some 67)) 63 6 (some 68)) 63 7 (some 69)) 63 8 (some 70))
theorem rn_800_63_o {R : MR} {k : Nat} {x : Option Nat} (h : R 12 k = x) : rn_800_63 R 12 k = x := upR_o rfl (upR_o rfl (upR_o rfl (upR_o rfl (upR_o rfl (upR_o rfl (upR_o rfl h))))))
theorem cf_800_63 {R : MR} {I : MI} {L : ML} (hF : FM 64 R I L) : FM 71 (rn_800_63 R) I L := by
  have hF := (hF.mk1 (m := 65) rfl (by decide)).2
  have hF := hF.uR (c := 63) (i := 0) (v := some 64) (by decide)
  have hF := (hF.mk1 (m := 66) rfl (by decide)).2
  have hF := hF.uR (c := 63) (i := 1) (v := some 65) (by decide)
  have hF := (hF.mk1 (m := 67) rfl (by decide)).2
  have hF := hF.uR (c := 63) (i := 4) (v := some 66) (by decide)
  have hF := (hF.mk1 (m := 68) rfl (by decide)).2
  have hF := hF.uR (c := 63) (i := 5) (v := some 67) (by decide)
  have hF := (hF.mk1 (m := 69) rfl (by decide)).2
  have hF := hF.uR (c := 63) (i := 6) (v := some 68) (by decide)
  have hF := (hF.mk1 (m := 70) rfl (by decide)).2
  have hF := hF.uR (c := 63) (i := 7) (v := some 69) (by decide)
  have hF := (hF.mk1 (m := 71) rfl (by decide)).2
  have hF := hF.uR (c := 63) (i := 8) (v := some 70) (by decide)
  exact hF
set_option maxRecDepth 20000 in
theorem cn_800_63 {d : Nat} (hd : 1 ≤ d) {R : MR} {I : MI} {L : ML} (hF : FM 64 R I L) : Ex d 800 [.ref 63, .int (200 : Int32)] (64, R, I, L) (none, (71, rn_800_63 R, I, L)) := by
  obtain ⟨d, rfl⟩ : ∃ d0, d = d0 + 1 := ⟨d - 1, by omega⟩
  refine Ex.of okm_800 (by omega) (Nat.le_of_ble_eq_true rfl) ?_
  show Rc (d + 1) 800 (0, [.ref 63, .int (200 : Int32), UU], [], (64, R, I, L)) _
  refine Rc.goL mt_800 4 (f2 := (9, [.ref 63, .int (200 : Int32), UU], [.int ((imx (0 : Int32) (200 : Int32)))], (64, R, I, L))) (b := true) rfl rfl ?_
  rw [show imx (0 : Int32) (200 : Int32) = 200 from by decide]
  refine Rc.goL mt_800 2 (f2 := (12, [.ref 63, .int (200 : Int32), .int (200 : Int32)], [.int (200 : Int32), .ref 63], (64, R, I, L))) (b := true) rfl rfl ?_
  refine Rc.goL mt_800 0 (f2 := (14, [.ref 63, .int (200 : Int32), .int (200 : Int32)], [.ref 64, .ref 63], nw (64, R, I, L))) (b := ((Nat.beq (K0 64) (kAT .char) && decide (¬ (200 : Int32) < 0) && Nat.beq (Int32.toNatClampNeg (200 : Int32)) (Z0 64)) && true)) rfl (by decide +kernel) ?_
  rw [(hF.mk1 (m := 65) rfl (by decide)).1]
  have hF := (hF.mk1 (m := 65) rfl (by decide)).2
  refine Rc.goL mt_800 0 (f2 := (17, [.ref 63, .int (200 : Int32), .int (200 : Int32)], [], (65, (upR R 63 0 (some 64)), I, L))) (b := true) rfl rfl ?_
  have hF := hF.uR (c := 63) (i := 0) (v := some 64) (by decide)
  refine Rc.goL mt_800 1 (f2 := (19, [.ref 63, .int (200 : Int32), .int (200 : Int32)], [.int (200 : Int32), .ref 63], (65, (upR R 63 0 (some 64)), I, L))) (b := true) rfl rfl ?_
  refine Rc.goL mt_800 0 (f2 := (21, [.ref 63, .int (200 : Int32), .int (200 : Int32)], [.ref 65, .ref 63], nw (65, (upR R 63 0 (some 64)), I, L))) (b := ((Nat.beq (K0 65) (kAT .int) && decide (¬ (200 : Int32) < 0) && Nat.beq (Int32.toNatClampNeg (200 : Int32)) (Z0 65)) && true)) rfl (by decide +kernel) ?_
  rw [(hF.mk1 (m := 66) rfl (by decide)).1]
  have hF := (hF.mk1 (m := 66) rfl (by decide)).2
  refine Rc.goL mt_800 0 (f2 := (24, [.ref 63, .int (200 : Int32), .int (200 : Int32)], [], (66, (upR (upR R 63 0 (some 64)) 63 1 (some 65)), I, L))) (b := true) rfl rfl ?_
  have hF := hF.uR (c := 63) (i := 1) (v := some 65) (by decide)
  refine Rc.goL mt_800 1 (f2 := (27, [.ref 63, .int (200 : Int32), .int (200 : Int32)], [.int (10 : Int32), .ref 63], (66, (upR (upR R 63 0 (some 64)) 63 1 (some 65)), I, L))) (b := true) rfl rfl ?_
  refine Rc.goL mt_800 0 (f2 := (29, [.ref 63, .int (200 : Int32), .int (200 : Int32)], [.ref 66, .ref 63], nw (66, (upR (upR R 63 0 (some 64)) 63 1 (some 65)), I, L))) (b := ((Nat.beq (K0 66) (kAT .int) && decide (¬ (10 : Int32) < 0) && Nat.beq (Int32.toNatClampNeg (10 : Int32)) (Z0 66)) && true)) rfl (by decide +kernel) ?_
  rw [(hF.mk1 (m := 67) rfl (by decide)).1]
  have hF := (hF.mk1 (m := 67) rfl (by decide)).2
  refine Rc.goL mt_800 0 (f2 := (32, [.ref 63, .int (200 : Int32), .int (200 : Int32)], [], (67, (upR (upR (upR R 63 0 (some 64)) 63 1 (some 65)) 63 4 (some 66)), I, L))) (b := true) rfl rfl ?_
  have hF := hF.uR (c := 63) (i := 4) (v := some 66) (by decide)
  refine Rc.goL mt_800 1 (f2 := (35, [.ref 63, .int (200 : Int32), .int (200 : Int32)], [.int (10 : Int32), .ref 63], (67, (upR (upR (upR R 63 0 (some 64)) 63 1 (some 65)) 63 4 (some 66)), I, L))) (b := true) rfl rfl ?_
  refine Rc.goL mt_800 0 (f2 := (37, [.ref 63, .int (200 : Int32), .int (200 : Int32)], [.ref 67, .ref 63], nw (67, (upR (upR (upR R 63 0 (some 64)) 63 1 (some 65)) 63 4 (some 66)), I, L))) (b := ((Nat.beq (K0 67) (kAT .int) && decide (¬ (10 : Int32) < 0) && Nat.beq (Int32.toNatClampNeg (10 : Int32)) (Z0 67)) && true)) rfl (by decide +kernel) ?_
  rw [(hF.mk1 (m := 68) rfl (by decide)).1]
  have hF := (hF.mk1 (m := 68) rfl (by decide)).2
  refine Rc.goL mt_800 0 (f2 := (40, [.ref 63, .int (200 : Int32), .int (200 : Int32)], [], (68, (upR (upR (upR (upR R 63 0 (some 64)) 63 1 (some 65)) 63 4 (some 66)) 63 5 (some 67)), I, L))) (b := true) rfl rfl ?_
  have hF := hF.uR (c := 63) (i := 5) (v := some 67) (by decide)
  refine Rc.goL mt_800 1 (f2 := (43, [.ref 63, .int (200 : Int32), .int (200 : Int32)], [.int (10 : Int32), .ref 63], (68, (upR (upR (upR (upR R 63 0 (some 64)) 63 1 (some 65)) 63 4 (some 66)) 63 5 (some 67)), I, L))) (b := true) rfl rfl ?_
  refine Rc.goL mt_800 0 (f2 := (45, [.ref 63, .int (200 : Int32), .int (200 : Int32)], [.ref 68, .ref 63], nw (68, (upR (upR (upR (upR R 63 0 (some 64)) 63 1 (some 65)) 63 4 (some 66)) 63 5 (some 67)), I, L))) (b := ((Nat.beq (K0 68) (kAT .int) && decide (¬ (10 : Int32) < 0) && Nat.beq (Int32.toNatClampNeg (10 : Int32)) (Z0 68)) && true)) rfl (by decide +kernel) ?_
  rw [(hF.mk1 (m := 69) rfl (by decide)).1]
  have hF := (hF.mk1 (m := 69) rfl (by decide)).2
  refine Rc.goL mt_800 0 (f2 := (48, [.ref 63, .int (200 : Int32), .int (200 : Int32)], [], (69, (upR (upR (upR (upR (upR R 63 0 (some 64)) 63 1 (some 65)) 63 4 (some 66)) 63 5 (some 67)) 63 6 (some 68)), I, L))) (b := true) rfl rfl ?_
  have hF := hF.uR (c := 63) (i := 6) (v := some 68) (by decide)
  refine Rc.goL mt_800 1 (f2 := (51, [.ref 63, .int (200 : Int32), .int (200 : Int32)], [.int (10 : Int32), .ref 63], (69, (upR (upR (upR (upR (upR R 63 0 (some 64)) 63 1 (some 65)) 63 4 (some 66)) 63 5 (some 67)) 63 6 (some 68)), I, L))) (b := true) rfl rfl ?_
  refine Rc.goL mt_800 0 (f2 := (53, [.ref 63, .int (200 : Int32), .int (200 : Int32)], [.ref 69, .ref 63], nw (69, (upR (upR (upR (upR (upR R 63 0 (some 64)) 63 1 (some 65)) 63 4 (some 66)) 63 5 (some 67)) 63 6 (some 68)), I, L))) (b := ((Nat.beq (K0 69) (kAT .int) && decide (¬ (10 : Int32) < 0) && Nat.beq (Int32.toNatClampNeg (10 : Int32)) (Z0 69)) && true)) rfl (by decide +kernel) ?_
  rw [(hF.mk1 (m := 70) rfl (by decide)).1]
  have hF := (hF.mk1 (m := 70) rfl (by decide)).2
  refine Rc.goL mt_800 0 (f2 := (56, [.ref 63, .int (200 : Int32), .int (200 : Int32)], [], (70, (upR (upR (upR (upR (upR (upR R 63 0 (some 64)) 63 1 (some 65)) 63 4 (some 66)) 63 5 (some 67)) 63 6 (some 68)) 63 7 (some 69)), I, L))) (b := true) rfl rfl ?_
  have hF := hF.uR (c := 63) (i := 7) (v := some 69) (by decide)
  refine Rc.goL mt_800 1 (f2 := (59, [.ref 63, .int (200 : Int32), .int (200 : Int32)], [.int (10 : Int32), .ref 63], (70, (upR (upR (upR (upR (upR (upR R 63 0 (some 64)) 63 1 (some 65)) 63 4 (some 66)) 63 5 (some 67)) 63 6 (some 68)) 63 7 (some 69)), I, L))) (b := true) rfl rfl ?_
  refine Rc.goL mt_800 0 (f2 := (61, [.ref 63, .int (200 : Int32), .int (200 : Int32)], [.ref 70, .ref 63], nw (70, (upR (upR (upR (upR (upR (upR R 63 0 (some 64)) 63 1 (some 65)) 63 4 (some 66)) 63 5 (some 67)) 63 6 (some 68)) 63 7 (some 69)), I, L))) (b := ((Nat.beq (K0 70) (kAT .int) && decide (¬ (10 : Int32) < 0) && Nat.beq (Int32.toNatClampNeg (10 : Int32)) (Z0 70)) && true)) rfl (by decide +kernel) ?_
  rw [(hF.mk1 (m := 71) rfl (by decide)).1]
  have hF := (hF.mk1 (m := 71) rfl (by decide)).2
  refine Rc.goL mt_800 0 (f2 := (64, [.ref 63, .int (200 : Int32), .int (200 : Int32)], [], (71, (upR (upR (upR (upR (upR (upR (upR R 63 0 (some 64)) 63 1 (some 65)) 63 4 (some 66)) 63 5 (some 67)) 63 6 (some 68)) 63 7 (some 69)) 63 8 (some 70)), I, L))) (b := true) rfl rfl ?_
  have hF := hF.uR (c := 63) (i := 8) (v := some 70) (by decide)
  exact Rc.ret (v := none) rfl rfl
def rn_800_71 (R : MR) : MR := (upR (upR (upR (upR (upR (upR (upR R 71 0 (some 72)) 71 1 (some 73)) 71 4 (some 74)) 71 5 (some 75)) 71 6 (some 76)) 71 7 (some 77)) 71 8 (some 78))
theorem rn_800_71_o {R : MR} {k : Nat} {x : Option Nat} (h : R 12 k = x) : rn_800_71 R 12 k = x := upR_o rfl (upR_o rfl (upR_o rfl (upR_o rfl (upR_o rfl (upR_o rfl (upR_o rfl h))))))
theorem cf_800_71 {R : MR} {I : MI} {L : ML} (hF : FM 72 R I L) : FM 79 (rn_800_71 R) I L := by
  have hF := (hF.mk1 (m := 73) rfl (by decide)).2
  have hF := hF.uR (c := 71) (i := 0) (v := some 72) (by decide)
  have hF := (hF.mk1 (m := 74) rfl (by decide)).2
  have hF := hF.uR (c := 71) (i := 1) (v := some 73) (by decide)
  have hF := (hF.mk1 (m := 75) rfl (by decide)).2
  have hF := hF.uR (c := 71) (i := 4) (v := some 74) (by decide)
  have hF := (hF.mk1 (m := 76) rfl (by decide)).2
  have hF := hF.uR (c := 71) (i := 5) (v := some 75) (by decide)
  have hF := (hF.mk1 (m := 77) rfl (by decide)).2
  have hF := hF.uR (c := 71) (i := 6) (v := some 76) (by decide)
  have hF := (hF.mk1 (m := 78) rfl (by decide)).2
  have hF := hF.uR (c := 71) (i := 7) (v := some 77) (by decide)
  have hF := (hF.mk1 (m := 79) rfl (by decide)).2
  have hF := hF.uR (c := 71) (i := 8) (v := some 78) (by decide)
  exact hF
set_option maxRecDepth 20000 in
theorem cn_800_71 {d : Nat} (hd : 1 ≤ d) {R : MR} {I : MI} {L : ML} (hF : FM 72 R I L) : Ex d 800 [.ref 71, .int (60 : Int32)] (72, R, I, L) (none, (79, rn_800_71 R, I, L)) := by
  obtain ⟨d, rfl⟩ : ∃ d0, d = d0 + 1 := ⟨d - 1, by omega⟩
  refine Ex.of okm_800 (by omega) (Nat.le_of_ble_eq_true rfl) ?_
  show Rc (d + 1) 800 (0, [.ref 71, .int (60 : Int32), UU], [], (72, R, I, L)) _
  refine Rc.goL mt_800 4 (f2 := (9, [.ref 71, .int (60 : Int32), UU], [.int ((imx (0 : Int32) (60 : Int32)))], (72, R, I, L))) (b := true) rfl rfl ?_
  rw [show imx (0 : Int32) (60 : Int32) = 60 from by decide]
  refine Rc.goL mt_800 2 (f2 := (12, [.ref 71, .int (60 : Int32), .int (60 : Int32)], [.int (60 : Int32), .ref 71], (72, R, I, L))) (b := true) rfl rfl ?_
  refine Rc.goL mt_800 0 (f2 := (14, [.ref 71, .int (60 : Int32), .int (60 : Int32)], [.ref 72, .ref 71], nw (72, R, I, L))) (b := ((Nat.beq (K0 72) (kAT .char) && decide (¬ (60 : Int32) < 0) && Nat.beq (Int32.toNatClampNeg (60 : Int32)) (Z0 72)) && true)) rfl (by decide +kernel) ?_
  rw [(hF.mk1 (m := 73) rfl (by decide)).1]
  have hF := (hF.mk1 (m := 73) rfl (by decide)).2
  refine Rc.goL mt_800 0 (f2 := (17, [.ref 71, .int (60 : Int32), .int (60 : Int32)], [], (73, (upR R 71 0 (some 72)), I, L))) (b := true) rfl rfl ?_
  have hF := hF.uR (c := 71) (i := 0) (v := some 72) (by decide)
  refine Rc.goL mt_800 1 (f2 := (19, [.ref 71, .int (60 : Int32), .int (60 : Int32)], [.int (60 : Int32), .ref 71], (73, (upR R 71 0 (some 72)), I, L))) (b := true) rfl rfl ?_
  refine Rc.goL mt_800 0 (f2 := (21, [.ref 71, .int (60 : Int32), .int (60 : Int32)], [.ref 73, .ref 71], nw (73, (upR R 71 0 (some 72)), I, L))) (b := ((Nat.beq (K0 73) (kAT .int) && decide (¬ (60 : Int32) < 0) && Nat.beq (Int32.toNatClampNeg (60 : Int32)) (Z0 73)) && true)) rfl (by decide +kernel) ?_
  rw [(hF.mk1 (m := 74) rfl (by decide)).1]
  have hF := (hF.mk1 (m := 74) rfl (by decide)).2
  refine Rc.goL mt_800 0 (f2 := (24, [.ref 71, .int (60 : Int32), .int (60 : Int32)], [], (74, (upR (upR R 71 0 (some 72)) 71 1 (some 73)), I, L))) (b := true) rfl rfl ?_
  have hF := hF.uR (c := 71) (i := 1) (v := some 73) (by decide)
  refine Rc.goL mt_800 1 (f2 := (27, [.ref 71, .int (60 : Int32), .int (60 : Int32)], [.int (10 : Int32), .ref 71], (74, (upR (upR R 71 0 (some 72)) 71 1 (some 73)), I, L))) (b := true) rfl rfl ?_
  refine Rc.goL mt_800 0 (f2 := (29, [.ref 71, .int (60 : Int32), .int (60 : Int32)], [.ref 74, .ref 71], nw (74, (upR (upR R 71 0 (some 72)) 71 1 (some 73)), I, L))) (b := ((Nat.beq (K0 74) (kAT .int) && decide (¬ (10 : Int32) < 0) && Nat.beq (Int32.toNatClampNeg (10 : Int32)) (Z0 74)) && true)) rfl (by decide +kernel) ?_
  rw [(hF.mk1 (m := 75) rfl (by decide)).1]
  have hF := (hF.mk1 (m := 75) rfl (by decide)).2
  refine Rc.goL mt_800 0 (f2 := (32, [.ref 71, .int (60 : Int32), .int (60 : Int32)], [], (75, (upR (upR (upR R 71 0 (some 72)) 71 1 (some 73)) 71 4 (some 74)), I, L))) (b := true) rfl rfl ?_
  have hF := hF.uR (c := 71) (i := 4) (v := some 74) (by decide)
  refine Rc.goL mt_800 1 (f2 := (35, [.ref 71, .int (60 : Int32), .int (60 : Int32)], [.int (10 : Int32), .ref 71], (75, (upR (upR (upR R 71 0 (some 72)) 71 1 (some 73)) 71 4 (some 74)), I, L))) (b := true) rfl rfl ?_
  refine Rc.goL mt_800 0 (f2 := (37, [.ref 71, .int (60 : Int32), .int (60 : Int32)], [.ref 75, .ref 71], nw (75, (upR (upR (upR R 71 0 (some 72)) 71 1 (some 73)) 71 4 (some 74)), I, L))) (b := ((Nat.beq (K0 75) (kAT .int) && decide (¬ (10 : Int32) < 0) && Nat.beq (Int32.toNatClampNeg (10 : Int32)) (Z0 75)) && true)) rfl (by decide +kernel) ?_
  rw [(hF.mk1 (m := 76) rfl (by decide)).1]
  have hF := (hF.mk1 (m := 76) rfl (by decide)).2
  refine Rc.goL mt_800 0 (f2 := (40, [.ref 71, .int (60 : Int32), .int (60 : Int32)], [], (76, (upR (upR (upR (upR R 71 0 (some 72)) 71 1 (some 73)) 71 4 (some 74)) 71 5 (some 75)), I, L))) (b := true) rfl rfl ?_
  have hF := hF.uR (c := 71) (i := 5) (v := some 75) (by decide)
  refine Rc.goL mt_800 1 (f2 := (43, [.ref 71, .int (60 : Int32), .int (60 : Int32)], [.int (10 : Int32), .ref 71], (76, (upR (upR (upR (upR R 71 0 (some 72)) 71 1 (some 73)) 71 4 (some 74)) 71 5 (some 75)), I, L))) (b := true) rfl rfl ?_
  refine Rc.goL mt_800 0 (f2 := (45, [.ref 71, .int (60 : Int32), .int (60 : Int32)], [.ref 76, .ref 71], nw (76, (upR (upR (upR (upR R 71 0 (some 72)) 71 1 (some 73)) 71 4 (some 74)) 71 5 (some 75)), I, L))) (b := ((Nat.beq (K0 76) (kAT .int) && decide (¬ (10 : Int32) < 0) && Nat.beq (Int32.toNatClampNeg (10 : Int32)) (Z0 76)) && true)) rfl (by decide +kernel) ?_
  rw [(hF.mk1 (m := 77) rfl (by decide)).1]
  have hF := (hF.mk1 (m := 77) rfl (by decide)).2
  refine Rc.goL mt_800 0 (f2 := (48, [.ref 71, .int (60 : Int32), .int (60 : Int32)], [], (77, (upR (upR (upR (upR (upR R 71 0 (some 72)) 71 1 (some 73)) 71 4 (some 74)) 71 5 (some 75)) 71 6 (some 76)), I, L))) (b := true) rfl rfl ?_
  have hF := hF.uR (c := 71) (i := 6) (v := some 76) (by decide)
  refine Rc.goL mt_800 1 (f2 := (51, [.ref 71, .int (60 : Int32), .int (60 : Int32)], [.int (10 : Int32), .ref 71], (77, (upR (upR (upR (upR (upR R 71 0 (some 72)) 71 1 (some 73)) 71 4 (some 74)) 71 5 (some 75)) 71 6 (some 76)), I, L))) (b := true) rfl rfl ?_
  refine Rc.goL mt_800 0 (f2 := (53, [.ref 71, .int (60 : Int32), .int (60 : Int32)], [.ref 77, .ref 71], nw (77, (upR (upR (upR (upR (upR R 71 0 (some 72)) 71 1 (some 73)) 71 4 (some 74)) 71 5 (some 75)) 71 6 (some 76)), I, L))) (b := ((Nat.beq (K0 77) (kAT .int) && decide (¬ (10 : Int32) < 0) && Nat.beq (Int32.toNatClampNeg (10 : Int32)) (Z0 77)) && true)) rfl (by decide +kernel) ?_
  rw [(hF.mk1 (m := 78) rfl (by decide)).1]
  have hF := (hF.mk1 (m := 78) rfl (by decide)).2
  refine Rc.goL mt_800 0 (f2 := (56, [.ref 71, .int (60 : Int32), .int (60 : Int32)], [], (78, (upR (upR (upR (upR (upR (upR R 71 0 (some 72)) 71 1 (some 73)) 71 4 (some 74)) 71 5 (some 75)) 71 6 (some 76)) 71 7 (some 77)), I, L))) (b := true) rfl rfl ?_
  have hF := hF.uR (c := 71) (i := 7) (v := some 77) (by decide)
  refine Rc.goL mt_800 1 (f2 := (59, [.ref 71, .int (60 : Int32), .int (60 : Int32)], [.int (10 : Int32), .ref 71], (78, (upR (upR (upR (upR (upR (upR R 71 0 (some 72)) 71 1 (some 73)) 71 4 (some 74)) 71 5 (some 75)) 71 6 (some 76)) 71 7 (some 77)), I, L))) (b := true) rfl rfl ?_
  refine Rc.goL mt_800 0 (f2 := (61, [.ref 71, .int (60 : Int32), .int (60 : Int32)], [.ref 78, .ref 71], nw (78, (upR (upR (upR (upR (upR (upR R 71 0 (some 72)) 71 1 (some 73)) 71 4 (some 74)) 71 5 (some 75)) 71 6 (some 76)) 71 7 (some 77)), I, L))) (b := ((Nat.beq (K0 78) (kAT .int) && decide (¬ (10 : Int32) < 0) && Nat.beq (Int32.toNatClampNeg (10 : Int32)) (Z0 78)) && true)) rfl (by decide +kernel) ?_
  rw [(hF.mk1 (m := 79) rfl (by decide)).1]
  have hF := (hF.mk1 (m := 79) rfl (by decide)).2
  refine Rc.goL mt_800 0 (f2 := (64, [.ref 71, .int (60 : Int32), .int (60 : Int32)], [], (79, (upR (upR (upR (upR (upR (upR (upR R 71 0 (some 72)) 71 1 (some 73)) 71 4 (some 74)) 71 5 (some 75)) 71 6 (some 76)) 71 7 (some 77)) 71 8 (some 78)), I, L))) (b := true) rfl rfl ?_
  have hF := hF.uR (c := 71) (i := 8) (v := some 78) (by decide)
  exact Rc.ret (v := none) rfl rfl
def rn_800_79 (R : MR) : MR := (upR (upR (upR (upR (upR (upR (upR R 79 0 (some 80)) 79 1 (some 81)) 79 4 (some 82)) 79 5 (some 83)) 79 6 (some 84)) 79 7 (some 85)) 79 8 (some 86))
theorem rn_800_79_o {R : MR} {k : Nat} {x : Option Nat} (h : R 12 k = x) : rn_800_79 R 12 k = x := upR_o rfl (upR_o rfl (upR_o rfl (upR_o rfl (upR_o rfl (upR_o rfl (upR_o rfl h))))))
theorem cf_800_79 {R : MR} {I : MI} {L : ML} (hF : FM 80 R I L) : FM 87 (rn_800_79 R) I L := by
  have hF := (hF.mk1 (m := 81) rfl (by decide)).2
  have hF := hF.uR (c := 79) (i := 0) (v := some 80) (by decide)
  have hF := (hF.mk1 (m := 82) rfl (by decide)).2
  have hF := hF.uR (c := 79) (i := 1) (v := some 81) (by decide)
  have hF := (hF.mk1 (m := 83) rfl (by decide)).2
  have hF := hF.uR (c := 79) (i := 4) (v := some 82) (by decide)
  have hF := (hF.mk1 (m := 84) rfl (by decide)).2
  have hF := hF.uR (c := 79) (i := 5) (v := some 83) (by decide)
  have hF := (hF.mk1 (m := 85) rfl (by decide)).2
  have hF := hF.uR (c := 79) (i := 6) (v := some 84) (by decide)
  have hF := (hF.mk1 (m := 86) rfl (by decide)).2
  have hF := hF.uR (c := 79) (i := 7) (v := some 85) (by decide)
  have hF := (hF.mk1 (m := 87) rfl (by decide)).2
  have hF := hF.uR (c := 79) (i := 8) (v := some 86) (by decide)
  exact hF
set_option maxRecDepth 20000 in
theorem cn_800_79 {d : Nat} (hd : 1 ≤ d) {R : MR} {I : MI} {L : ML} (hF : FM 80 R I L) : Ex d 800 [.ref 79, .int (200 : Int32)] (80, R, I, L) (none, (87, rn_800_79 R, I, L)) := by
  obtain ⟨d, rfl⟩ : ∃ d0, d = d0 + 1 := ⟨d - 1, by omega⟩
  refine Ex.of okm_800 (by omega) (Nat.le_of_ble_eq_true rfl) ?_
  show Rc (d + 1) 800 (0, [.ref 79, .int (200 : Int32), UU], [], (80, R, I, L)) _
  refine Rc.goL mt_800 4 (f2 := (9, [.ref 79, .int (200 : Int32), UU], [.int ((imx (0 : Int32) (200 : Int32)))], (80, R, I, L))) (b := true) rfl rfl ?_
  rw [show imx (0 : Int32) (200 : Int32) = 200 from by decide]
  refine Rc.goL mt_800 2 (f2 := (12, [.ref 79, .int (200 : Int32), .int (200 : Int32)], [.int (200 : Int32), .ref 79], (80, R, I, L))) (b := true) rfl rfl ?_
  refine Rc.goL mt_800 0 (f2 := (14, [.ref 79, .int (200 : Int32), .int (200 : Int32)], [.ref 80, .ref 79], nw (80, R, I, L))) (b := ((Nat.beq (K0 80) (kAT .char) && decide (¬ (200 : Int32) < 0) && Nat.beq (Int32.toNatClampNeg (200 : Int32)) (Z0 80)) && true)) rfl (by decide +kernel) ?_
  rw [(hF.mk1 (m := 81) rfl (by decide)).1]
  have hF := (hF.mk1 (m := 81) rfl (by decide)).2
  refine Rc.goL mt_800 0 (f2 := (17, [.ref 79, .int (200 : Int32), .int (200 : Int32)], [], (81, (upR R 79 0 (some 80)), I, L))) (b := true) rfl rfl ?_
  have hF := hF.uR (c := 79) (i := 0) (v := some 80) (by decide)
  refine Rc.goL mt_800 1 (f2 := (19, [.ref 79, .int (200 : Int32), .int (200 : Int32)], [.int (200 : Int32), .ref 79], (81, (upR R 79 0 (some 80)), I, L))) (b := true) rfl rfl ?_
  refine Rc.goL mt_800 0 (f2 := (21, [.ref 79, .int (200 : Int32), .int (200 : Int32)], [.ref 81, .ref 79], nw (81, (upR R 79 0 (some 80)), I, L))) (b := ((Nat.beq (K0 81) (kAT .int) && decide (¬ (200 : Int32) < 0) && Nat.beq (Int32.toNatClampNeg (200 : Int32)) (Z0 81)) && true)) rfl (by decide +kernel) ?_
  rw [(hF.mk1 (m := 82) rfl (by decide)).1]
  have hF := (hF.mk1 (m := 82) rfl (by decide)).2
  refine Rc.goL mt_800 0 (f2 := (24, [.ref 79, .int (200 : Int32), .int (200 : Int32)], [], (82, (upR (upR R 79 0 (some 80)) 79 1 (some 81)), I, L))) (b := true) rfl rfl ?_
  have hF := hF.uR (c := 79) (i := 1) (v := some 81) (by decide)
  refine Rc.goL mt_800 1 (f2 := (27, [.ref 79, .int (200 : Int32), .int (200 : Int32)], [.int (10 : Int32), .ref 79], (82, (upR (upR R 79 0 (some 80)) 79 1 (some 81)), I, L))) (b := true) rfl rfl ?_
  refine Rc.goL mt_800 0 (f2 := (29, [.ref 79, .int (200 : Int32), .int (200 : Int32)], [.ref 82, .ref 79], nw (82, (upR (upR R 79 0 (some 80)) 79 1 (some 81)), I, L))) (b := ((Nat.beq (K0 82) (kAT .int) && decide (¬ (10 : Int32) < 0) && Nat.beq (Int32.toNatClampNeg (10 : Int32)) (Z0 82)) && true)) rfl (by decide +kernel) ?_
  rw [(hF.mk1 (m := 83) rfl (by decide)).1]
  have hF := (hF.mk1 (m := 83) rfl (by decide)).2
  refine Rc.goL mt_800 0 (f2 := (32, [.ref 79, .int (200 : Int32), .int (200 : Int32)], [], (83, (upR (upR (upR R 79 0 (some 80)) 79 1 (some 81)) 79 4 (some 82)), I, L))) (b := true) rfl rfl ?_
  have hF := hF.uR (c := 79) (i := 4) (v := some 82) (by decide)
  refine Rc.goL mt_800 1 (f2 := (35, [.ref 79, .int (200 : Int32), .int (200 : Int32)], [.int (10 : Int32), .ref 79], (83, (upR (upR (upR R 79 0 (some 80)) 79 1 (some 81)) 79 4 (some 82)), I, L))) (b := true) rfl rfl ?_
  refine Rc.goL mt_800 0 (f2 := (37, [.ref 79, .int (200 : Int32), .int (200 : Int32)], [.ref 83, .ref 79], nw (83, (upR (upR (upR R 79 0 (some 80)) 79 1 (some 81)) 79 4 (some 82)), I, L))) (b := ((Nat.beq (K0 83) (kAT .int) && decide (¬ (10 : Int32) < 0) && Nat.beq (Int32.toNatClampNeg (10 : Int32)) (Z0 83)) && true)) rfl (by decide +kernel) ?_
  rw [(hF.mk1 (m := 84) rfl (by decide)).1]
  have hF := (hF.mk1 (m := 84) rfl (by decide)).2
  refine Rc.goL mt_800 0 (f2 := (40, [.ref 79, .int (200 : Int32), .int (200 : Int32)], [], (84, (upR (upR (upR (upR R 79 0 (some 80)) 79 1 (some 81)) 79 4 (some 82)) 79 5 (some 83)), I, L))) (b := true) rfl rfl ?_
  have hF := hF.uR (c := 79) (i := 5) (v := some 83) (by decide)
  refine Rc.goL mt_800 1 (f2 := (43, [.ref 79, .int (200 : Int32), .int (200 : Int32)], [.int (10 : Int32), .ref 79], (84, (upR (upR (upR (upR R 79 0 (some 80)) 79 1 (some 81)) 79 4 (some 82)) 79 5 (some 83)), I, L))) (b := true) rfl rfl ?_
  refine Rc.goL mt_800 0 (f2 := (45, [.ref 79, .int (200 : Int32), .int (200 : Int32)], [.ref 84, .ref 79], nw (84, (upR (upR (upR (upR R 79 0 (some 80)) 79 1 (some 81)) 79 4 (some 82)) 79 5 (some 83)), I, L))) (b := ((Nat.beq (K0 84) (kAT .int) && decide (¬ (10 : Int32) < 0) && Nat.beq (Int32.toNatClampNeg (10 : Int32)) (Z0 84)) && true)) rfl (by decide +kernel) ?_
  rw [(hF.mk1 (m := 85) rfl (by decide)).1]
  have hF := (hF.mk1 (m := 85) rfl (by decide)).2
  refine Rc.goL mt_800 0 (f2 := (48, [.ref 79, .int (200 : Int32), .int (200 : Int32)], [], (85, (upR (upR (upR (upR (upR R 79 0 (some 80)) 79 1 (some 81)) 79 4 (some 82)) 79 5 (some 83)) 79 6 (some 84)), I, L))) (b := true) rfl rfl ?_
  have hF := hF.uR (c := 79) (i := 6) (v := some 84) (by decide)
  refine Rc.goL mt_800 1 (f2 := (51, [.ref 79, .int (200 : Int32), .int (200 : Int32)], [.int (10 : Int32), .ref 79], (85, (upR (upR (upR (upR (upR R 79 0 (some 80)) 79 1 (some 81)) 79 4 (some 82)) 79 5 (some 83)) 79 6 (some 84)), I, L))) (b := true) rfl rfl ?_
  refine Rc.goL mt_800 0 (f2 := (53, [.ref 79, .int (200 : Int32), .int (200 : Int32)], [.ref 85, .ref 79], nw (85, (upR (upR (upR (upR (upR R 79 0 (some 80)) 79 1 (some 81)) 79 4 (some 82)) 79 5 (some 83)) 79 6 (some 84)), I, L))) (b := ((Nat.beq (K0 85) (kAT .int) && decide (¬ (10 : Int32) < 0) && Nat.beq (Int32.toNatClampNeg (10 : Int32)) (Z0 85)) && true)) rfl (by decide +kernel) ?_
  rw [(hF.mk1 (m := 86) rfl (by decide)).1]
  have hF := (hF.mk1 (m := 86) rfl (by decide)).2
  refine Rc.goL mt_800 0 (f2 := (56, [.ref 79, .int (200 : Int32), .int (200 : Int32)], [], (86, (upR (upR (upR (upR (upR (upR R 79 0 (some 80)) 79 1 (some 81)) 79 4 (some 82)) 79 5 (some 83)) 79 6 (some 84)) 79 7 (some 85)), I, L))) (b := true) rfl rfl ?_
  have hF := hF.uR (c := 79) (i := 7) (v := some 85) (by decide)
  refine Rc.goL mt_800 1 (f2 := (59, [.ref 79, .int (200 : Int32), .int (200 : Int32)], [.int (10 : Int32), .ref 79], (86, (upR (upR (upR (upR (upR (upR R 79 0 (some 80)) 79 1 (some 81)) 79 4 (some 82)) 79 5 (some 83)) 79 6 (some 84)) 79 7 (some 85)), I, L))) (b := true) rfl rfl ?_
  refine Rc.goL mt_800 0 (f2 := (61, [.ref 79, .int (200 : Int32), .int (200 : Int32)], [.ref 86, .ref 79], nw (86, (upR (upR (upR (upR (upR (upR R 79 0 (some 80)) 79 1 (some 81)) 79 4 (some 82)) 79 5 (some 83)) 79 6 (some 84)) 79 7 (some 85)), I, L))) (b := ((Nat.beq (K0 86) (kAT .int) && decide (¬ (10 : Int32) < 0) && Nat.beq (Int32.toNatClampNeg (10 : Int32)) (Z0 86)) && true)) rfl (by decide +kernel) ?_
  rw [(hF.mk1 (m := 87) rfl (by decide)).1]
  have hF := (hF.mk1 (m := 87) rfl (by decide)).2
  refine Rc.goL mt_800 0 (f2 := (64, [.ref 79, .int (200 : Int32), .int (200 : Int32)], [], (87, (upR (upR (upR (upR (upR (upR (upR R 79 0 (some 80)) 79 1 (some 81)) 79 4 (some 82)) 79 5 (some 83)) 79 6 (some 84)) 79 7 (some 85)) 79 8 (some 86)), I, L))) (b := true) rfl rfl ?_
  have hF := hF.uR (c := 79) (i := 8) (v := some 86) (by decide)
  exact Rc.ret (v := none) rfl rfl
def rn_800_87 (R : MR) : MR := (upR (upR (upR (upR (upR (upR (upR R 87 0 (some 88)) 87 1 (some 89)) 87 4 (some 90)) 87 5 (some 91)) 87 6 (some 92)) 87 7 (some 93)) 87 8 (some 94))
theorem rn_800_87_o {R : MR} {k : Nat} {x : Option Nat} (h : R 12 k = x) : rn_800_87 R 12 k = x := upR_o rfl (upR_o rfl (upR_o rfl (upR_o rfl (upR_o rfl (upR_o rfl (upR_o rfl h))))))
theorem cf_800_87 {R : MR} {I : MI} {L : ML} (hF : FM 88 R I L) : FM 95 (rn_800_87 R) I L := by
  have hF := (hF.mk1 (m := 89) rfl (by decide)).2
  have hF := hF.uR (c := 87) (i := 0) (v := some 88) (by decide)
  have hF := (hF.mk1 (m := 90) rfl (by decide)).2
  have hF := hF.uR (c := 87) (i := 1) (v := some 89) (by decide)
  have hF := (hF.mk1 (m := 91) rfl (by decide)).2
  have hF := hF.uR (c := 87) (i := 4) (v := some 90) (by decide)
  have hF := (hF.mk1 (m := 92) rfl (by decide)).2
  have hF := hF.uR (c := 87) (i := 5) (v := some 91) (by decide)
  have hF := (hF.mk1 (m := 93) rfl (by decide)).2
  have hF := hF.uR (c := 87) (i := 6) (v := some 92) (by decide)
  have hF := (hF.mk1 (m := 94) rfl (by decide)).2
  have hF := hF.uR (c := 87) (i := 7) (v := some 93) (by decide)
  have hF := (hF.mk1 (m := 95) rfl (by decide)).2
  have hF := hF.uR (c := 87) (i := 8) (v := some 94) (by decide)
  exact hF
set_option maxRecDepth 20000 in
theorem cn_800_87 {d : Nat} (hd : 1 ≤ d) {R : MR} {I : MI} {L : ML} (hF : FM 88 R I L) : Ex d 800 [.ref 87, .int (60 : Int32)] (88, R, I, L) (none, (95, rn_800_87 R, I, L)) := by
  obtain ⟨d, rfl⟩ : ∃ d0, d = d0 + 1 := ⟨d - 1, by omega⟩
  refine Ex.of okm_800 (by omega) (Nat.le_of_ble_eq_true rfl) ?_
  show Rc (d + 1) 800 (0, [.ref 87, .int (60 : Int32), UU], [], (88, R, I, L)) _
  refine Rc.goL mt_800 4 (f2 := (9, [.ref 87, .int (60 : Int32), UU], [.int ((imx (0 : Int32) (60 : Int32)))], (88, R, I, L))) (b := true) rfl rfl ?_
  rw [show imx (0 : Int32) (60 : Int32) = 60 from by decide]
  refine Rc.goL mt_800 2 (f2 := (12, [.ref 87, .int (60 : Int32), .int (60 : Int32)], [.int (60 : Int32), .ref 87], (88, R, I, L))) (b := true) rfl rfl ?_
  refine Rc.goL mt_800 0 (f2 := (14, [.ref 87, .int (60 : Int32), .int (60 : Int32)], [.ref 88, .ref 87], nw (88, R, I, L))) (b := ((Nat.beq (K0 88) (kAT .char) && decide (¬ (60 : Int32) < 0) && Nat.beq (Int32.toNatClampNeg (60 : Int32)) (Z0 88)) && true)) rfl (by decide +kernel) ?_
  rw [(hF.mk1 (m := 89) rfl (by decide)).1]
  have hF := (hF.mk1 (m := 89) rfl (by decide)).2
  refine Rc.goL mt_800 0 (f2 := (17, [.ref 87, .int (60 : Int32), .int (60 : Int32)], [], (89, (upR R 87 0 (some 88)), I, L))) (b := true) rfl rfl ?_
  have hF := hF.uR (c := 87) (i := 0) (v := some 88) (by decide)
  refine Rc.goL mt_800 1 (f2 := (19, [.ref 87, .int (60 : Int32), .int (60 : Int32)], [.int (60 : Int32), .ref 87], (89, (upR R 87 0 (some 88)), I, L))) (b := true) rfl rfl ?_
  refine Rc.goL mt_800 0 (f2 := (21, [.ref 87, .int (60 : Int32), .int (60 : Int32)], [.ref 89, .ref 87], nw (89, (upR R 87 0 (some 88)), I, L))) (b := ((Nat.beq (K0 89) (kAT .int) && decide (¬ (60 : Int32) < 0) && Nat.beq (Int32.toNatClampNeg (60 : Int32)) (Z0 89)) && true)) rfl (by decide +kernel) ?_
  rw [(hF.mk1 (m := 90) rfl (by decide)).1]
  have hF := (hF.mk1 (m := 90) rfl (by decide)).2
  refine Rc.goL mt_800 0 (f2 := (24, [.ref 87, .int (60 : Int32), .int (60 : Int32)], [], (90, (upR (upR R 87 0 (some 88)) 87 1 (some 89)), I, L))) (b := true) rfl rfl ?_
  have hF := hF.uR (c := 87) (i := 1) (v := some 89) (by decide)
  refine Rc.goL mt_800 1 (f2 := (27, [.ref 87, .int (60 : Int32), .int (60 : Int32)], [.int (10 : Int32), .ref 87], (90, (upR (upR R 87 0 (some 88)) 87 1 (some 89)), I, L))) (b := true) rfl rfl ?_
  refine Rc.goL mt_800 0 (f2 := (29, [.ref 87, .int (60 : Int32), .int (60 : Int32)], [.ref 90, .ref 87], nw (90, (upR (upR R 87 0 (some 88)) 87 1 (some 89)), I, L))) (b := ((Nat.beq (K0 90) (kAT .int) && decide (¬ (10 : Int32) < 0) && Nat.beq (Int32.toNatClampNeg (10 : Int32)) (Z0 90)) && true)) rfl (by decide +kernel) ?_
  rw [(hF.mk1 (m := 91) rfl (by decide)).1]
  have hF := (hF.mk1 (m := 91) rfl (by decide)).2
  refine Rc.goL mt_800 0 (f2 := (32, [.ref 87, .int (60 : Int32), .int (60 : Int32)], [], (91, (upR (upR (upR R 87 0 (some 88)) 87 1 (some 89)) 87 4 (some 90)), I, L))) (b := true) rfl rfl ?_
  have hF := hF.uR (c := 87) (i := 4) (v := some 90) (by decide)
  refine Rc.goL mt_800 1 (f2 := (35, [.ref 87, .int (60 : Int32), .int (60 : Int32)], [.int (10 : Int32), .ref 87], (91, (upR (upR (upR R 87 0 (some 88)) 87 1 (some 89)) 87 4 (some 90)), I, L))) (b := true) rfl rfl ?_
  refine Rc.goL mt_800 0 (f2 := (37, [.ref 87, .int (60 : Int32), .int (60 : Int32)], [.ref 91, .ref 87], nw (91, (upR (upR (upR R 87 0 (some 88)) 87 1 (some 89)) 87 4 (some 90)), I, L))) (b := ((Nat.beq (K0 91) (kAT .int) && decide (¬ (10 : Int32) < 0) && Nat.beq (Int32.toNatClampNeg (10 : Int32)) (Z0 91)) && true)) rfl (by decide +kernel) ?_
  rw [(hF.mk1 (m := 92) rfl (by decide)).1]
  have hF := (hF.mk1 (m := 92) rfl (by decide)).2
  refine Rc.goL mt_800 0 (f2 := (40, [.ref 87, .int (60 : Int32), .int (60 : Int32)], [], (92, (upR (upR (upR (upR R 87 0 (some 88)) 87 1 (some 89)) 87 4 (some 90)) 87 5 (some 91)), I, L))) (b := true) rfl rfl ?_
  have hF := hF.uR (c := 87) (i := 5) (v := some 91) (by decide)
  refine Rc.goL mt_800 1 (f2 := (43, [.ref 87, .int (60 : Int32), .int (60 : Int32)], [.int (10 : Int32), .ref 87], (92, (upR (upR (upR (upR R 87 0 (some 88)) 87 1 (some 89)) 87 4 (some 90)) 87 5 (some 91)), I, L))) (b := true) rfl rfl ?_
  refine Rc.goL mt_800 0 (f2 := (45, [.ref 87, .int (60 : Int32), .int (60 : Int32)], [.ref 92, .ref 87], nw (92, (upR (upR (upR (upR R 87 0 (some 88)) 87 1 (some 89)) 87 4 (some 90)) 87 5 (some 91)), I, L))) (b := ((Nat.beq (K0 92) (kAT .int) && decide (¬ (10 : Int32) < 0) && Nat.beq (Int32.toNatClampNeg (10 : Int32)) (Z0 92)) && true)) rfl (by decide +kernel) ?_
  rw [(hF.mk1 (m := 93) rfl (by decide)).1]
  have hF := (hF.mk1 (m := 93) rfl (by decide)).2
  refine Rc.goL mt_800 0 (f2 := (48, [.ref 87, .int (60 : Int32), .int (60 : Int32)], [], (93, (upR (upR (upR (upR (upR R 87 0 (some 88)) 87 1 (some 89)) 87 4 (some 90)) 87 5 (some 91)) 87 6 (some 92)), I, L))) (b := true) rfl rfl ?_
  have hF := hF.uR (c := 87) (i := 6) (v := some 92) (by decide)
  refine Rc.goL mt_800 1 (f2 := (51, [.ref 87, .int (60 : Int32), .int (60 : Int32)], [.int (10 : Int32), .ref 87], (93, (upR (upR (upR (upR (upR R 87 0 (some 88)) 87 1 (some 89)) 87 4 (some 90)) 87 5 (some 91)) 87 6 (some 92)), I, L))) (b := true) rfl rfl ?_
  refine Rc.goL mt_800 0 (f2 := (53, [.ref 87, .int (60 : Int32), .int (60 : Int32)], [.ref 93, .ref 87], nw (93, (upR (upR (upR (upR (upR R 87 0 (some 88)) 87 1 (some 89)) 87 4 (some 90)) 87 5 (some 91)) 87 6 (some 92)), I, L))) (b := ((Nat.beq (K0 93) (kAT .int) && decide (¬ (10 : Int32) < 0) && Nat.beq (Int32.toNatClampNeg (10 : Int32)) (Z0 93)) && true)) rfl (by decide +kernel) ?_
  rw [(hF.mk1 (m := 94) rfl (by decide)).1]
  have hF := (hF.mk1 (m := 94) rfl (by decide)).2
  refine Rc.goL mt_800 0 (f2 := (56, [.ref 87, .int (60 : Int32), .int (60 : Int32)], [], (94, (upR (upR (upR (upR (upR (upR R 87 0 (some 88)) 87 1 (some 89)) 87 4 (some 90)) 87 5 (some 91)) 87 6 (some 92)) 87 7 (some 93)), I, L))) (b := true) rfl rfl ?_
  have hF := hF.uR (c := 87) (i := 7) (v := some 93) (by decide)
  refine Rc.goL mt_800 1 (f2 := (59, [.ref 87, .int (60 : Int32), .int (60 : Int32)], [.int (10 : Int32), .ref 87], (94, (upR (upR (upR (upR (upR (upR R 87 0 (some 88)) 87 1 (some 89)) 87 4 (some 90)) 87 5 (some 91)) 87 6 (some 92)) 87 7 (some 93)), I, L))) (b := true) rfl rfl ?_
  refine Rc.goL mt_800 0 (f2 := (61, [.ref 87, .int (60 : Int32), .int (60 : Int32)], [.ref 94, .ref 87], nw (94, (upR (upR (upR (upR (upR (upR R 87 0 (some 88)) 87 1 (some 89)) 87 4 (some 90)) 87 5 (some 91)) 87 6 (some 92)) 87 7 (some 93)), I, L))) (b := ((Nat.beq (K0 94) (kAT .int) && decide (¬ (10 : Int32) < 0) && Nat.beq (Int32.toNatClampNeg (10 : Int32)) (Z0 94)) && true)) rfl (by decide +kernel) ?_
  rw [(hF.mk1 (m := 95) rfl (by decide)).1]
  have hF := (hF.mk1 (m := 95) rfl (by decide)).2
  refine Rc.goL mt_800 0 (f2 := (64, [.ref 87, .int (60 : Int32), .int (60 : Int32)], [], (95, (upR (upR (upR (upR (upR (upR (upR R 87 0 (some 88)) 87 1 (some 89)) 87 4 (some 90)) 87 5 (some 91)) 87 6 (some 92)) 87 7 (some 93)) 87 8 (some 94)), I, L))) (b := true) rfl rfl ?_
  have hF := hF.uR (c := 87) (i := 8) (v := some 94) (by decide)
  exact Rc.ret (v := none) rfl rfl
def rn_800_95 (R : MR) : MR := (upR (upR (upR (upR (upR (upR (upR R 95 0 (some 96)) 95 1 (some 97)) 95 4 (some 98)) 95 5 (some 99)) 95 6 (some 100)) 95 7 (some 101)) 95 8 (some 102))
theorem rn_800_95_o {R : MR} {k : Nat} {x : Option Nat} (h : R 12 k = x) : rn_800_95 R 12 k = x := upR_o rfl (upR_o rfl (upR_o rfl (upR_o rfl (upR_o rfl (upR_o rfl (upR_o rfl h))))))
theorem cf_800_95 {R : MR} {I : MI} {L : ML} (hF : FM 96 R I L) : FM 103 (rn_800_95 R) I L := by
  have hF := (hF.mk1 (m := 97) rfl (by decide)).2
  have hF := hF.uR (c := 95) (i := 0) (v := some 96) (by decide)
  have hF := (hF.mk1 (m := 98) rfl (by decide)).2
  have hF := hF.uR (c := 95) (i := 1) (v := some 97) (by decide)
  have hF := (hF.mk1 (m := 99) rfl (by decide)).2
  have hF := hF.uR (c := 95) (i := 4) (v := some 98) (by decide)
  have hF := (hF.mk1 (m := 100) rfl (by decide)).2
  have hF := hF.uR (c := 95) (i := 5) (v := some 99) (by decide)
  have hF := (hF.mk1 (m := 101) rfl (by decide)).2
  have hF := hF.uR (c := 95) (i := 6) (v := some 100) (by decide)
  have hF := (hF.mk1 (m := 102) rfl (by decide)).2
  have hF := hF.uR (c := 95) (i := 7) (v := some 101) (by decide)
  have hF := (hF.mk1 (m := 103) rfl (by decide)).2
  have hF := hF.uR (c := 95) (i := 8) (v := some 102) (by decide)
  exact hF
set_option maxRecDepth 20000 in
theorem cn_800_95 {d : Nat} (hd : 1 ≤ d) {R : MR} {I : MI} {L : ML} (hF : FM 96 R I L) : Ex d 800 [.ref 95, .int (200 : Int32)] (96, R, I, L) (none, (103, rn_800_95 R, I, L)) := by
  obtain ⟨d, rfl⟩ : ∃ d0, d = d0 + 1 := ⟨d - 1, by omega⟩
  refine Ex.of okm_800 (by omega) (Nat.le_of_ble_eq_true rfl) ?_
  show Rc (d + 1) 800 (0, [.ref 95, .int (200 : Int32), UU], [], (96, R, I, L)) _
  refine Rc.goL mt_800 4 (f2 := (9, [.ref 95, .int (200 : Int32), UU], [.int ((imx (0 : Int32) (200 : Int32)))], (96, R, I, L))) (b := true) rfl rfl ?_
  rw [show imx (0 : Int32) (200 : Int32) = 200 from by decide]
  refine Rc.goL mt_800 2 (f2 := (12, [.ref 95, .int (200 : Int32), .int (200 : Int32)], [.int (200 : Int32), .ref 95], (96, R, I, L))) (b := true) rfl rfl ?_
  refine Rc.goL mt_800 0 (f2 := (14, [.ref 95, .int (200 : Int32), .int (200 : Int32)], [.ref 96, .ref 95], nw (96, R, I, L))) (b := ((Nat.beq (K0 96) (kAT .char) && decide (¬ (200 : Int32) < 0) && Nat.beq (Int32.toNatClampNeg (200 : Int32)) (Z0 96)) && true)) rfl (by decide +kernel) ?_
  rw [(hF.mk1 (m := 97) rfl (by decide)).1]
  have hF := (hF.mk1 (m := 97) rfl (by decide)).2
  refine Rc.goL mt_800 0 (f2 := (17, [.ref 95, .int (200 : Int32), .int (200 : Int32)], [], (97, (upR R 95 0 (some 96)), I, L))) (b := true) rfl rfl ?_
  have hF := hF.uR (c := 95) (i := 0) (v := some 96) (by decide)
  refine Rc.goL mt_800 1 (f2 := (19, [.ref 95, .int (200 : Int32), .int (200 : Int32)], [.int (200 : Int32), .ref 95], (97, (upR R 95 0 (some 96)), I, L))) (b := true) rfl rfl ?_
  refine Rc.goL mt_800 0 (f2 := (21, [.ref 95, .int (200 : Int32), .int (200 : Int32)], [.ref 97, .ref 95], nw (97, (upR R 95 0 (some 96)), I, L))) (b := ((Nat.beq (K0 97) (kAT .int) && decide (¬ (200 : Int32) < 0) && Nat.beq (Int32.toNatClampNeg (200 : Int32)) (Z0 97)) && true)) rfl (by decide +kernel) ?_
  rw [(hF.mk1 (m := 98) rfl (by decide)).1]
  have hF := (hF.mk1 (m := 98) rfl (by decide)).2
  refine Rc.goL mt_800 0 (f2 := (24, [.ref 95, .int (200 : Int32), .int (200 : Int32)], [], (98, (upR (upR R 95 0 (some 96)) 95 1 (some 97)), I, L))) (b := true) rfl rfl ?_
  have hF := hF.uR (c := 95) (i := 1) (v := some 97) (by decide)
  refine Rc.goL mt_800 1 (f2 := (27, [.ref 95, .int (200 : Int32), .int (200 : Int32)], [.int (10 : Int32), .ref 95], (98, (upR (upR R 95 0 (some 96)) 95 1 (some 97)), I, L))) (b := true) rfl rfl ?_
  refine Rc.goL mt_800 0 (f2 := (29, [.ref 95, .int (200 : Int32), .int (200 : Int32)], [.ref 98, .ref 95], nw (98, (upR (upR R 95 0 (some 96)) 95 1 (some 97)), I, L))) (b := ((Nat.beq (K0 98) (kAT .int) && decide (¬ (10 : Int32) < 0) && Nat.beq (Int32.toNatClampNeg (10 : Int32)) (Z0 98)) && true)) rfl (by decide +kernel) ?_
  rw [(hF.mk1 (m := 99) rfl (by decide)).1]
  have hF := (hF.mk1 (m := 99) rfl (by decide)).2
  refine Rc.goL mt_800 0 (f2 := (32, [.ref 95, .int (200 : Int32), .int (200 : Int32)], [], (99, (upR (upR (upR R 95 0 (some 96)) 95 1 (some 97)) 95 4 (some 98)), I, L))) (b := true) rfl rfl ?_
  have hF := hF.uR (c := 95) (i := 4) (v := some 98) (by decide)
  refine Rc.goL mt_800 1 (f2 := (35, [.ref 95, .int (200 : Int32), .int (200 : Int32)], [.int (10 : Int32), .ref 95], (99, (upR (upR (upR R 95 0 (some 96)) 95 1 (some 97)) 95 4 (some 98)), I, L))) (b := true) rfl rfl ?_
  refine Rc.goL mt_800 0 (f2 := (37, [.ref 95, .int (200 : Int32), .int (200 : Int32)], [.ref 99, .ref 95], nw (99, (upR (upR (upR R 95 0 (some 96)) 95 1 (some 97)) 95 4 (some 98)), I, L))) (b := ((Nat.beq (K0 99) (kAT .int) && decide (¬ (10 : Int32) < 0) && Nat.beq (Int32.toNatClampNeg (10 : Int32)) (Z0 99)) && true)) rfl (by decide +kernel) ?_
  rw [(hF.mk1 (m := 100) rfl (by decide)).1]
  have hF := (hF.mk1 (m := 100) rfl (by decide)).2
  refine Rc.goL mt_800 0 (f2 := (40, [.ref 95, .int (200 : Int32), .int (200 : Int32)], [], (100, (upR (upR (upR (upR R 95 0 (some 96)) 95 1 (some 97)) 95 4 (some 98)) 95 5 (some 99)), I, L))) (b := true) rfl rfl ?_
  have hF := hF.uR (c := 95) (i := 5) (v := some 99) (by decide)
  refine Rc.goL mt_800 1 (f2 := (43, [.ref 95, .int (200 : Int32), .int (200 : Int32)], [.int (10 : Int32), .ref 95], (100, (upR (upR (upR (upR R 95 0 (some 96)) 95 1 (some 97)) 95 4 (some 98)) 95 5 (some 99)), I, L))) (b := true) rfl rfl ?_
  refine Rc.goL mt_800 0 (f2 := (45, [.ref 95, .int (200 : Int32), .int (200 : Int32)], [.ref 100, .ref 95], nw (100, (upR (upR (upR (upR R 95 0 (some 96)) 95 1 (some 97)) 95 4 (some 98)) 95 5 (some 99)), I, L))) (b := ((Nat.beq (K0 100) (kAT .int) && decide (¬ (10 : Int32) < 0) && Nat.beq (Int32.toNatClampNeg (10 : Int32)) (Z0 100)) && true)) rfl (by decide +kernel) ?_
  rw [(hF.mk1 (m := 101) rfl (by decide)).1]
  have hF := (hF.mk1 (m := 101) rfl (by decide)).2
  refine Rc.goL mt_800 0 (f2 := (48, [.ref 95, .int (200 : Int32), .int (200 : Int32)], [], (101, (upR (upR (upR (upR (upR R 95 0 (some 96)) 95 1 (some 97)) 95 4 (some 98)) 95 5 (some 99)) 95 6 (some 100)), I, L))) (b := true) rfl rfl ?_
  have hF := hF.uR (c := 95) (i := 6) (v := some 100) (by decide)
  refine Rc.goL mt_800 1 (f2 := (51, [.ref 95, .int (200 : Int32), .int (200 : Int32)], [.int (10 : Int32), .ref 95], (101, (upR (upR (upR (upR (upR R 95 0 (some 96)) 95 1 (some 97)) 95 4 (some 98)) 95 5 (some 99)) 95 6 (some 100)), I, L))) (b := true) rfl rfl ?_
  refine Rc.goL mt_800 0 (f2 := (53, [.ref 95, .int (200 : Int32), .int (200 : Int32)], [.ref 101, .ref 95], nw (101, (upR (upR (upR (upR (upR R 95 0 (some 96)) 95 1 (some 97)) 95 4 (some 98)) 95 5 (some 99)) 95 6 (some 100)), I, L))) (b := ((Nat.beq (K0 101) (kAT .int) && decide (¬ (10 : Int32) < 0) && Nat.beq (Int32.toNatClampNeg (10 : Int32)) (Z0 101)) && true)) rfl (by decide +kernel) ?_
  rw [(hF.mk1 (m := 102) rfl (by decide)).1]
  have hF := (hF.mk1 (m := 102) rfl (by decide)).2
  refine Rc.goL mt_800 0 (f2 := (56, [.ref 95, .int (200 : Int32), .int (200 : Int32)], [], (102, (upR (upR (upR (upR (upR (upR R 95 0 (some 96)) 95 1 (some 97)) 95 4 (some 98)) 95 5 (some 99)) 95 6 (some 100)) 95 7 (some 101)), I, L))) (b := true) rfl rfl ?_
  have hF := hF.uR (c := 95) (i := 7) (v := some 101) (by decide)
  refine Rc.goL mt_800 1 (f2 := (59, [.ref 95, .int (200 : Int32), .int (200 : Int32)], [.int (10 : Int32), .ref 95], (102, (upR (upR (upR (upR (upR (upR R 95 0 (some 96)) 95 1 (some 97)) 95 4 (some 98)) 95 5 (some 99)) 95 6 (some 100)) 95 7 (some 101)), I, L))) (b := true) rfl rfl ?_
  refine Rc.goL mt_800 0 (f2 := (61, [.ref 95, .int (200 : Int32), .int (200 : Int32)], [.ref 102, .ref 95], nw (102, (upR (upR (upR (upR (upR (upR R 95 0 (some 96)) 95 1 (some 97)) 95 4 (some 98)) 95 5 (some 99)) 95 6 (some 100)) 95 7 (some 101)), I, L))) (b := ((Nat.beq (K0 102) (kAT .int) && decide (¬ (10 : Int32) < 0) && Nat.beq (Int32.toNatClampNeg (10 : Int32)) (Z0 102)) && true)) rfl (by decide +kernel) ?_
  rw [(hF.mk1 (m := 103) rfl (by decide)).1]
  have hF := (hF.mk1 (m := 103) rfl (by decide)).2
  refine Rc.goL mt_800 0 (f2 := (64, [.ref 95, .int (200 : Int32), .int (200 : Int32)], [], (103, (upR (upR (upR (upR (upR (upR (upR R 95 0 (some 96)) 95 1 (some 97)) 95 4 (some 98)) 95 5 (some 99)) 95 6 (some 100)) 95 7 (some 101)) 95 8 (some 102)), I, L))) (b := true) rfl rfl ?_
  have hF := hF.uR (c := 95) (i := 8) (v := some 102) (by decide)
  exact Rc.ret (v := none) rfl rfl
def rn_800_103 (R : MR) : MR := (upR (upR (upR (upR (upR (upR (upR R 103 0 (some 104)) 103 1 (some 105)) 103 4 (some 106)) 103 5 (some 107)) 103 6 (some 108)) 103 7 (some 109)) 103 8 (some 110))
theorem rn_800_103_o {R : MR} {k : Nat} {x : Option Nat} (h : R 12 k = x) : rn_800_103 R 12 k = x := upR_o rfl (upR_o rfl (upR_o rfl (upR_o rfl (upR_o rfl (upR_o rfl (upR_o rfl h))))))
theorem cf_800_103 {R : MR} {I : MI} {L : ML} (hF : FM 104 R I L) : FM 111 (rn_800_103 R) I L := by
  have hF := (hF.mk1 (m := 105) rfl (by decide)).2
  have hF := hF.uR (c := 103) (i := 0) (v := some 104) (by decide)
  have hF := (hF.mk1 (m := 106) rfl (by decide)).2
  have hF := hF.uR (c := 103) (i := 1) (v := some 105) (by decide)
  have hF := (hF.mk1 (m := 107) rfl (by decide)).2
  have hF := hF.uR (c := 103) (i := 4) (v := some 106) (by decide)
  have hF := (hF.mk1 (m := 108) rfl (by decide)).2
  have hF := hF.uR (c := 103) (i := 5) (v := some 107) (by decide)
  have hF := (hF.mk1 (m := 109) rfl (by decide)).2
  have hF := hF.uR (c := 103) (i := 6) (v := some 108) (by decide)
  have hF := (hF.mk1 (m := 110) rfl (by decide)).2
  have hF := hF.uR (c := 103) (i := 7) (v := some 109) (by decide)
  have hF := (hF.mk1 (m := 111) rfl (by decide)).2
  have hF := hF.uR (c := 103) (i := 8) (v := some 110) (by decide)
  exact hF
set_option maxRecDepth 20000 in
theorem cn_800_103 {d : Nat} (hd : 1 ≤ d) {R : MR} {I : MI} {L : ML} (hF : FM 104 R I L) : Ex d 800 [.ref 103, .int (60 : Int32)] (104, R, I, L) (none, (111, rn_800_103 R, I, L)) := by
  obtain ⟨d, rfl⟩ : ∃ d0, d = d0 + 1 := ⟨d - 1, by omega⟩
  refine Ex.of okm_800 (by omega) (Nat.le_of_ble_eq_true rfl) ?_
  show Rc (d + 1) 800 (0, [.ref 103, .int (60 : Int32), UU], [], (104, R, I, L)) _
  refine Rc.goL mt_800 4 (f2 := (9, [.ref 103, .int (60 : Int32), UU], [.int ((imx (0 : Int32) (60 : Int32)))], (104, R, I, L))) (b := true) rfl rfl ?_
  rw [show imx (0 : Int32) (60 : Int32) = 60 from by decide]
  refine Rc.goL mt_800 2 (f2 := (12, [.ref 103, .int (60 : Int32), .int (60 : Int32)], [.int (60 : Int32), .ref 103], (104, R, I, L))) (b := true) rfl rfl ?_
  refine Rc.goL mt_800 0 (f2 := (14, [.ref 103, .int (60 : Int32), .int (60 : Int32)], [.ref 104, .ref 103], nw (104, R, I, L))) (b := ((Nat.beq (K0 104) (kAT .char) && decide (¬ (60 : Int32) < 0) && Nat.beq (Int32.toNatClampNeg (60 : Int32)) (Z0 104)) && true)) rfl (by decide +kernel) ?_
  rw [(hF.mk1 (m := 105) rfl (by decide)).1]
  have hF := (hF.mk1 (m := 105) rfl (by decide)).2
  refine Rc.goL mt_800 0 (f2 := (17, [.ref 103, .int (60 : Int32), .int (60 : Int32)], [], (105, (upR R 103 0 (some 104)), I, L))) (b := true) rfl rfl ?_
  have hF := hF.uR (c := 103) (i := 0) (v := some 104) (by decide)
  refine Rc.goL mt_800 1 (f2 := (19, [.ref 103, .int (60 : Int32), .int (60 : Int32)], [.int (60 : Int32), .ref 103], (105, (upR R 103 0 (some 104)), I, L))) (b := true) rfl rfl ?_
  refine Rc.goL mt_800 0 (f2 := (21, [.ref 103, .int (60 : Int32), .int (60 : Int32)], [.ref 105, .ref 103], nw (105, (upR R 103 0 (some 104)), I, L))) (b := ((Nat.beq (K0 105) (kAT .int) && decide (¬ (60 : Int32) < 0) && Nat.beq (Int32.toNatClampNeg (60 : Int32)) (Z0 105)) && true)) rfl (by decide +kernel) ?_
  rw [(hF.mk1 (m := 106) rfl (by decide)).1]
  have hF := (hF.mk1 (m := 106) rfl (by decide)).2
  refine Rc.goL mt_800 0 (f2 := (24, [.ref 103, .int (60 : Int32), .int (60 : Int32)], [], (106, (upR (upR R 103 0 (some 104)) 103 1 (some 105)), I, L))) (b := true) rfl rfl ?_
  have hF := hF.uR (c := 103) (i := 1) (v := some 105) (by decide)
  refine Rc.goL mt_800 1 (f2 := (27, [.ref 103, .int (60 : Int32), .int (60 : Int32)], [.int (10 : Int32), .ref 103], (106, (upR (upR R 103 0 (some 104)) 103 1 (some 105)), I, L))) (b := true) rfl rfl ?_
  refine Rc.goL mt_800 0 (f2 := (29, [.ref 103, .int (60 : Int32), .int (60 : Int32)], [.ref 106, .ref 103], nw (106, (upR (upR R 103 0 (some 104)) 103 1 (some 105)), I, L))) (b := ((Nat.beq (K0 106) (kAT .int) && decide (¬ (10 : Int32) < 0) && Nat.beq (Int32.toNatClampNeg (10 : Int32)) (Z0 106)) && true)) rfl (by decide +kernel) ?_
  rw [(hF.mk1 (m := 107) rfl (by decide)).1]
  have hF := (hF.mk1 (m := 107) rfl (by decide)).2
  refine Rc.goL mt_800 0 (f2 := (32, [.ref 103, .int (60 : Int32), .int (60 : Int32)], [], (107, (upR (upR (upR R 103 0 (some 104)) 103 1 (some 105)) 103 4 (some 106)), I, L))) (b := true) rfl rfl ?_
  have hF := hF.uR (c := 103) (i := 4) (v := some 106) (by decide)
  refine Rc.goL mt_800 1 (f2 := (35, [.ref 103, .int (60 : Int32), .int (60 : Int32)], [.int (10 : Int32), .ref 103], (107, (upR (upR (upR R 103 0 (some 104)) 103 1 (some 105)) 103 4 (some 106)), I, L))) (b := true) rfl rfl ?_
  refine Rc.goL mt_800 0 (f2 := (37, [.ref 103, .int (60 : Int32), .int (60 : Int32)], [.ref 107, .ref 103], nw (107, (upR (upR (upR R 103 0 (some 104)) 103 1 (some 105)) 103 4 (some 106)), I, L))) (b := ((Nat.beq (K0 107) (kAT .int) && decide (¬ (10 : Int32) < 0) && Nat.beq (Int32.toNatClampNeg (10 : Int32)) (Z0 107)) && true)) rfl (by decide +kernel) ?_
  rw [(hF.mk1 (m := 108) rfl (by decide)).1]
  have hF := (hF.mk1 (m := 108) rfl (by decide)).2
  refine Rc.goL mt_800 0 (f2 := (40, [.ref 103, .int (60 : Int32), .int (60 : Int32)], [], (108, (upR (upR (upR (upR R 103 0 (some 104)) 103 1 (some 105)) 103 4 (some 106)) 103 5 (some 107)), I, L))) (b := true) rfl rfl ?_
  have hF := hF.uR (c := 103) (i := 5) (v := some 107) (by decide)
  refine Rc.goL mt_800 1 (f2 := (43, [.ref 103, .int (60 : Int32), .int (60 : Int32)], [.int (10 : Int32), .ref 103], (108, (upR (upR (upR (upR R 103 0 (some 104)) 103 1 (some 105)) 103 4 (some 106)) 103 5 (some 107)), I, L))) (b := true) rfl rfl ?_
  refine Rc.goL mt_800 0 (f2 := (45, [.ref 103, .int (60 : Int32), .int (60 : Int32)], [.ref 108, .ref 103], nw (108, (upR (upR (upR (upR R 103 0 (some 104)) 103 1 (some 105)) 103 4 (some 106)) 103 5 (some 107)), I, L))) (b := ((Nat.beq (K0 108) (kAT .int) && decide (¬ (10 : Int32) < 0) && Nat.beq (Int32.toNatClampNeg (10 : Int32)) (Z0 108)) && true)) rfl (by decide +kernel) ?_
  rw [(hF.mk1 (m := 109) rfl (by decide)).1]
  have hF := (hF.mk1 (m := 109) rfl (by decide)).2
  refine Rc.goL mt_800 0 (f2 := (48, [.ref 103, .int (60 : Int32), .int (60 : Int32)], [], (109, (upR (upR (upR (upR (upR R 103 0 (some 104)) 103 1 (some 105)) 103 4 (some 106)) 103 5 (some 107)) 103 6 (some 108)), I, L))) (b := true) rfl rfl ?_
  have hF := hF.uR (c := 103) (i := 6) (v := some 108) (by decide)
  refine Rc.goL mt_800 1 (f2 := (51, [.ref 103, .int (60 : Int32), .int (60 : Int32)], [.int (10 : Int32), .ref 103], (109, (upR (upR (upR (upR (upR R 103 0 (some 104)) 103 1 (some 105)) 103 4 (some 106)) 103 5 (some 107)) 103 6 (some 108)), I, L))) (b := true) rfl rfl ?_
  refine Rc.goL mt_800 0 (f2 := (53, [.ref 103, .int (60 : Int32), .int (60 : Int32)], [.ref 109, .ref 103], nw (109, (upR (upR (upR (upR (upR R 103 0 (some 104)) 103 1 (some 105)) 103 4 (some 106)) 103 5 (some 107)) 103 6 (some 108)), I, L))) (b := ((Nat.beq (K0 109) (kAT .int) && decide (¬ (10 : Int32) < 0) && Nat.beq (Int32.toNatClampNeg (10 : Int32)) (Z0 109)) && true)) rfl (by decide +kernel) ?_
  rw [(hF.mk1 (m := 110) rfl (by decide)).1]
  have hF := (hF.mk1 (m := 110) rfl (by decide)).2
  refine Rc.goL mt_800 0 (f2 := (56, [.ref 103, .int (60 : Int32), .int (60 : Int32)], [], (110, (upR (upR (upR (upR (upR (upR R 103 0 (some 104)) 103 1 (some 105)) 103 4 (some 106)) 103 5 (some 107)) 103 6 (some 108)) 103 7 (some 109)), I, L))) (b := true) rfl rfl ?_
  have hF := hF.uR (c := 103) (i := 7) (v := some 109) (by decide)
  refine Rc.goL mt_800 1 (f2 := (59, [.ref 103, .int (60 : Int32), .int (60 : Int32)], [.int (10 : Int32), .ref 103], (110, (upR (upR (upR (upR (upR (upR R 103 0 (some 104)) 103 1 (some 105)) 103 4 (some 106)) 103 5 (some 107)) 103 6 (some 108)) 103 7 (some 109)), I, L))) (b := true) rfl rfl ?_
  refine Rc.goL mt_800 0 (f2 := (61, [.ref 103, .int (60 : Int32), .int (60 : Int32)], [.ref 110, .ref 103], nw (110, (upR (upR (upR (upR (upR (upR R 103 0 (some 104)) 103 1 (some 105)) 103 4 (some 106)) 103 5 (some 107)) 103 6 (some 108)) 103 7 (some 109)), I, L))) (b := ((Nat.beq (K0 110) (kAT .int) && decide (¬ (10 : Int32) < 0) && Nat.beq (Int32.toNatClampNeg (10 : Int32)) (Z0 110)) && true)) rfl (by decide +kernel) ?_
  rw [(hF.mk1 (m := 111) rfl (by decide)).1]
  have hF := (hF.mk1 (m := 111) rfl (by decide)).2
  refine Rc.goL mt_800 0 (f2 := (64, [.ref 103, .int (60 : Int32), .int (60 : Int32)], [], (111, (upR (upR (upR (upR (upR (upR (upR R 103 0 (some 104)) 103 1 (some 105)) 103 4 (some 106)) 103 5 (some 107)) 103 6 (some 108)) 103 7 (some 109)) 103 8 (some 110)), I, L))) (b := true) rfl rfl ?_
  have hF := hF.uR (c := 103) (i := 8) (v := some 110) (by decide)
  exact Rc.ret (v := none) rfl rfl
def rn_800_111 (R : MR) : MR := (upR (upR (upR (upR (upR (upR (upR R 111 0 (some 112)) 111 1 (some 113)) 111 4 (some 114)) 111 5 (some 115)) 111 6 (some 116)) 111 7 (some 117)) 111 8 (some 118))
theorem rn_800_111_o {R : MR} {k : Nat} {x : Option Nat} (h : R 12 k = x) : rn_800_111 R 12 k = x := upR_o rfl (upR_o rfl (upR_o rfl (upR_o rfl (upR_o rfl (upR_o rfl (upR_o rfl h))))))
theorem cf_800_111 {R : MR} {I : MI} {L : ML} (hF : FM 112 R I L) : FM 119 (rn_800_111 R) I L := by
  have hF := (hF.mk1 (m := 113) rfl (by decide)).2
  have hF := hF.uR (c := 111) (i := 0) (v := some 112) (by decide)
  have hF := (hF.mk1 (m := 114) rfl (by decide)).2
  have hF := hF.uR (c := 111) (i := 1) (v := some 113) (by decide)
  have hF := (hF.mk1 (m := 115) rfl (by decide)).2
  have hF := hF.uR (c := 111) (i := 4) (v := some 114) (by decide)
  have hF := (hF.mk1 (m := 116) rfl (by decide)).2
  have hF := hF.uR (c := 111) (i := 5) (v := some 115) (by decide)
  have hF := (hF.mk1 (m := 117) rfl (by decide)).2
  have hF := hF.uR (c := 111) (i := 6) (v := some 116) (by decide)
  have hF := (hF.mk1 (m := 118) rfl (by decide)).2
  have hF := hF.uR (c := 111) (i := 7) (v := some 117) (by decide)
  have hF := (hF.mk1 (m := 119) rfl (by decide)).2
  have hF := hF.uR (c := 111) (i := 8) (v := some 118) (by decide)
  exact hF
set_option maxRecDepth 20000 in
theorem cn_800_111 {d : Nat} (hd : 1 ≤ d) {R : MR} {I : MI} {L : ML} (hF : FM 112 R I L) : Ex d 800 [.ref 111, .int (200 : Int32)] (112, R, I, L) (none, (119, rn_800_111 R, I, L)) := by
  obtain ⟨d, rfl⟩ : ∃ d0, d = d0 + 1 := ⟨d - 1, by omega⟩
  refine Ex.of okm_800 (by omega) (Nat.le_of_ble_eq_true rfl) ?_
  show Rc (d + 1) 800 (0, [.ref 111, .int (200 : Int32), UU], [], (112, R, I, L)) _
  refine Rc.goL mt_800 4 (f2 := (9, [.ref 111, .int (200 : Int32), UU], [.int ((imx (0 : Int32) (200 : Int32)))], (112, R, I, L))) (b := true) rfl rfl ?_
  rw [show imx (0 : Int32) (200 : Int32) = 200 from by decide]
  refine Rc.goL mt_800 2 (f2 := (12, [.ref 111, .int (200 : Int32), .int (200 : Int32)], [.int (200 : Int32), .ref 111], (112, R, I, L))) (b := true) rfl rfl ?_
  refine Rc.goL mt_800 0 (f2 := (14, [.ref 111, .int (200 : Int32), .int (200 : Int32)], [.ref 112, .ref 111], nw (112, R, I, L))) (b := ((Nat.beq (K0 112) (kAT .char) && decide (¬ (200 : Int32) < 0) && Nat.beq (Int32.toNatClampNeg (200 : Int32)) (Z0 112)) && true)) rfl (by decide +kernel) ?_
  rw [(hF.mk1 (m := 113) rfl (by decide)).1]
  have hF := (hF.mk1 (m := 113) rfl (by decide)).2
  refine Rc.goL mt_800 0 (f2 := (17, [.ref 111, .int (200 : Int32), .int (200 : Int32)], [], (113, (upR R 111 0 (some 112)), I, L))) (b := true) rfl rfl ?_
  have hF := hF.uR (c := 111) (i := 0) (v := some 112) (by decide)
  refine Rc.goL mt_800 1 (f2 := (19, [.ref 111, .int (200 : Int32), .int (200 : Int32)], [.int (200 : Int32), .ref 111], (113, (upR R 111 0 (some 112)), I, L))) (b := true) rfl rfl ?_
  refine Rc.goL mt_800 0 (f2 := (21, [.ref 111, .int (200 : Int32), .int (200 : Int32)], [.ref 113, .ref 111], nw (113, (upR R 111 0 (some 112)), I, L))) (b := ((Nat.beq (K0 113) (kAT .int) && decide (¬ (200 : Int32) < 0) && Nat.beq (Int32.toNatClampNeg (200 : Int32)) (Z0 113)) && true)) rfl (by decide +kernel) ?_
  rw [(hF.mk1 (m := 114) rfl (by decide)).1]
  have hF := (hF.mk1 (m := 114) rfl (by decide)).2
  refine Rc.goL mt_800 0 (f2 := (24, [.ref 111, .int (200 : Int32), .int (200 : Int32)], [], (114, (upR (upR R 111 0 (some 112)) 111 1 (some 113)), I, L))) (b := true) rfl rfl ?_
  have hF := hF.uR (c := 111) (i := 1) (v := some 113) (by decide)
  refine Rc.goL mt_800 1 (f2 := (27, [.ref 111, .int (200 : Int32), .int (200 : Int32)], [.int (10 : Int32), .ref 111], (114, (upR (upR R 111 0 (some 112)) 111 1 (some 113)), I, L))) (b := true) rfl rfl ?_
  refine Rc.goL mt_800 0 (f2 := (29, [.ref 111, .int (200 : Int32), .int (200 : Int32)], [.ref 114, .ref 111], nw (114, (upR (upR R 111 0 (some 112)) 111 1 (some 113)), I, L))) (b := ((Nat.beq (K0 114) (kAT .int) && decide (¬ (10 : Int32) < 0) && Nat.beq (Int32.toNatClampNeg (10 : Int32)) (Z0 114)) && true)) rfl (by decide +kernel) ?_
  rw [(hF.mk1 (m := 115) rfl (by decide)).1]
  have hF := (hF.mk1 (m := 115) rfl (by decide)).2
  refine Rc.goL mt_800 0 (f2 := (32, [.ref 111, .int (200 : Int32), .int (200 : Int32)], [], (115, (upR (upR (upR R 111 0 (some 112)) 111 1 (some 113)) 111 4 (some 114)), I, L))) (b := true) rfl rfl ?_
  have hF := hF.uR (c := 111) (i := 4) (v := some 114) (by decide)
  refine Rc.goL mt_800 1 (f2 := (35, [.ref 111, .int (200 : Int32), .int (200 : Int32)], [.int (10 : Int32), .ref 111], (115, (upR (upR (upR R 111 0 (some 112)) 111 1 (some 113)) 111 4 (some 114)), I, L))) (b := true) rfl rfl ?_
  refine Rc.goL mt_800 0 (f2 := (37, [.ref 111, .int (200 : Int32), .int (200 : Int32)], [.ref 115, .ref 111], nw (115, (upR (upR (upR R 111 0 (some 112)) 111 1 (some 113)) 111 4 (some 114)), I, L))) (b := ((Nat.beq (K0 115) (kAT .int) && decide (¬ (10 : Int32) < 0) && Nat.beq (Int32.toNatClampNeg (10 : Int32)) (Z0 115)) && true)) rfl (by decide +kernel) ?_
  rw [(hF.mk1 (m := 116) rfl (by decide)).1]
  have hF := (hF.mk1 (m := 116) rfl (by decide)).2
  refine Rc.goL mt_800 0 (f2 := (40, [.ref 111, .int (200 : Int32), .int (200 : Int32)], [], (116, (upR (upR (upR (upR R 111 0 (some 112)) 111 1 (some 113)) 111 4 (some 114)) 111 5 (some 115)), I, L))) (b := true) rfl rfl ?_
  have hF := hF.uR (c := 111) (i := 5) (v := some 115) (by decide)
  refine Rc.goL mt_800 1 (f2 := (43, [.ref 111, .int (200 : Int32), .int (200 : Int32)], [.int (10 : Int32), .ref 111], (116, (upR (upR (upR (upR R 111 0 (some 112)) 111 1 (some 113)) 111 4 (some 114)) 111 5 (some 115)), I, L))) (b := true) rfl rfl ?_
  refine Rc.goL mt_800 0 (f2 := (45, [.ref 111, .int (200 : Int32), .int (200 : Int32)], [.ref 116, .ref 111], nw (116, (upR (upR (upR (upR R 111 0 (some 112)) 111 1 (some 113)) 111 4 (some 114)) 111 5 (some 115)), I, L))) (b := ((Nat.beq (K0 116) (kAT .int) && decide (¬ (10 : Int32) < 0) && Nat.beq (Int32.toNatClampNeg (10 : Int32)) (Z0 116)) && true)) rfl (by decide +kernel) ?_
  rw [(hF.mk1 (m := 117) rfl (by decide)).1]
  have hF := (hF.mk1 (m := 117) rfl (by decide)).2
  refine Rc.goL mt_800 0 (f2 := (48, [.ref 111, .int (200 : Int32), .int (200 : Int32)], [], (117, (upR (upR (upR (upR (upR R 111 0 (some 112)) 111 1 (some 113)) 111 4 (some 114)) 111 5 (some 115)) 111 6 (some 116)), I, L))) (b := true) rfl rfl ?_
  have hF := hF.uR (c := 111) (i := 6) (v := some 116) (by decide)
  refine Rc.goL mt_800 1 (f2 := (51, [.ref 111, .int (200 : Int32), .int (200 : Int32)], [.int (10 : Int32), .ref 111], (117, (upR (upR (upR (upR (upR R 111 0 (some 112)) 111 1 (some 113)) 111 4 (some 114)) 111 5 (some 115)) 111 6 (some 116)), I, L))) (b := true) rfl rfl ?_
  refine Rc.goL mt_800 0 (f2 := (53, [.ref 111, .int (200 : Int32), .int (200 : Int32)], [.ref 117, .ref 111], nw (117, (upR (upR (upR (upR (upR R 111 0 (some 112)) 111 1 (some 113)) 111 4 (some 114)) 111 5 (some 115)) 111 6 (some 116)), I, L))) (b := ((Nat.beq (K0 117) (kAT .int) && decide (¬ (10 : Int32) < 0) && Nat.beq (Int32.toNatClampNeg (10 : Int32)) (Z0 117)) && true)) rfl (by decide +kernel) ?_
  rw [(hF.mk1 (m := 118) rfl (by decide)).1]
  have hF := (hF.mk1 (m := 118) rfl (by decide)).2
  refine Rc.goL mt_800 0 (f2 := (56, [.ref 111, .int (200 : Int32), .int (200 : Int32)], [], (118, (upR (upR (upR (upR (upR (upR R 111 0 (some 112)) 111 1 (some 113)) 111 4 (some 114)) 111 5 (some 115)) 111 6 (some 116)) 111 7 (some 117)), I, L))) (b := true) rfl rfl ?_
  have hF := hF.uR (c := 111) (i := 7) (v := some 117) (by decide)
  refine Rc.goL mt_800 1 (f2 := (59, [.ref 111, .int (200 : Int32), .int (200 : Int32)], [.int (10 : Int32), .ref 111], (118, (upR (upR (upR (upR (upR (upR R 111 0 (some 112)) 111 1 (some 113)) 111 4 (some 114)) 111 5 (some 115)) 111 6 (some 116)) 111 7 (some 117)), I, L))) (b := true) rfl rfl ?_
  refine Rc.goL mt_800 0 (f2 := (61, [.ref 111, .int (200 : Int32), .int (200 : Int32)], [.ref 118, .ref 111], nw (118, (upR (upR (upR (upR (upR (upR R 111 0 (some 112)) 111 1 (some 113)) 111 4 (some 114)) 111 5 (some 115)) 111 6 (some 116)) 111 7 (some 117)), I, L))) (b := ((Nat.beq (K0 118) (kAT .int) && decide (¬ (10 : Int32) < 0) && Nat.beq (Int32.toNatClampNeg (10 : Int32)) (Z0 118)) && true)) rfl (by decide +kernel) ?_
  rw [(hF.mk1 (m := 119) rfl (by decide)).1]
  have hF := (hF.mk1 (m := 119) rfl (by decide)).2
  refine Rc.goL mt_800 0 (f2 := (64, [.ref 111, .int (200 : Int32), .int (200 : Int32)], [], (119, (upR (upR (upR (upR (upR (upR (upR R 111 0 (some 112)) 111 1 (some 113)) 111 4 (some 114)) 111 5 (some 115)) 111 6 (some 116)) 111 7 (some 117)) 111 8 (some 118)), I, L))) (b := true) rfl rfl ?_
  have hF := hF.uR (c := 111) (i := 8) (v := some 118) (by decide)
  exact Rc.ret (v := none) rfl rfl
def rn_800_119 (R : MR) : MR := (upR (upR (upR (upR (upR (upR (upR R 119 0 (some 120)) 119 1 (some 121)) 119 4 (some 122)) 119 5 (some 123)) 119 6 (some 124)) 119 7 (some 125)) 119 8 (some 126))
theorem rn_800_119_o {R : MR} {k : Nat} {x : Option Nat} (h : R 12 k = x) : rn_800_119 R 12 k = x := upR_o rfl (upR_o rfl (upR_o rfl (upR_o rfl (upR_o rfl (upR_o rfl (upR_o rfl h))))))
theorem cf_800_119 {R : MR} {I : MI} {L : ML} (hF : FM 120 R I L) : FM 127 (rn_800_119 R) I L := by
  have hF := (hF.mk1 (m := 121) rfl (by decide)).2
  have hF := hF.uR (c := 119) (i := 0) (v := some 120) (by decide)
  have hF := (hF.mk1 (m := 122) rfl (by decide)).2
  have hF := hF.uR (c := 119) (i := 1) (v := some 121) (by decide)
  have hF := (hF.mk1 (m := 123) rfl (by decide)).2
  have hF := hF.uR (c := 119) (i := 4) (v := some 122) (by decide)
  have hF := (hF.mk1 (m := 124) rfl (by decide)).2
  have hF := hF.uR (c := 119) (i := 5) (v := some 123) (by decide)
  have hF := (hF.mk1 (m := 125) rfl (by decide)).2
  have hF := hF.uR (c := 119) (i := 6) (v := some 124) (by decide)
  have hF := (hF.mk1 (m := 126) rfl (by decide)).2
  have hF := hF.uR (c := 119) (i := 7) (v := some 125) (by decide)
  have hF := (hF.mk1 (m := 127) rfl (by decide)).2
  have hF := hF.uR (c := 119) (i := 8) (v := some 126) (by decide)
  exact hF
set_option maxRecDepth 20000 in
theorem cn_800_119 {d : Nat} (hd : 1 ≤ d) {R : MR} {I : MI} {L : ML} (hF : FM 120 R I L) : Ex d 800 [.ref 119, .int (60 : Int32)] (120, R, I, L) (none, (127, rn_800_119 R, I, L)) := by
  obtain ⟨d, rfl⟩ : ∃ d0, d = d0 + 1 := ⟨d - 1, by omega⟩
  refine Ex.of okm_800 (by omega) (Nat.le_of_ble_eq_true rfl) ?_
  show Rc (d + 1) 800 (0, [.ref 119, .int (60 : Int32), UU], [], (120, R, I, L)) _
  refine Rc.goL mt_800 4 (f2 := (9, [.ref 119, .int (60 : Int32), UU], [.int ((imx (0 : Int32) (60 : Int32)))], (120, R, I, L))) (b := true) rfl rfl ?_
  rw [show imx (0 : Int32) (60 : Int32) = 60 from by decide]
  refine Rc.goL mt_800 2 (f2 := (12, [.ref 119, .int (60 : Int32), .int (60 : Int32)], [.int (60 : Int32), .ref 119], (120, R, I, L))) (b := true) rfl rfl ?_
  refine Rc.goL mt_800 0 (f2 := (14, [.ref 119, .int (60 : Int32), .int (60 : Int32)], [.ref 120, .ref 119], nw (120, R, I, L))) (b := ((Nat.beq (K0 120) (kAT .char) && decide (¬ (60 : Int32) < 0) && Nat.beq (Int32.toNatClampNeg (60 : Int32)) (Z0 120)) && true)) rfl (by decide +kernel) ?_
  rw [(hF.mk1 (m := 121) rfl (by decide)).1]
  have hF := (hF.mk1 (m := 121) rfl (by decide)).2
  refine Rc.goL mt_800 0 (f2 := (17, [.ref 119, .int (60 : Int32), .int (60 : Int32)], [], (121, (upR R 119 0 (some 120)), I, L))) (b := true) rfl rfl ?_
  have hF := hF.uR (c := 119) (i := 0) (v := some 120) (by decide)
  refine Rc.goL mt_800 1 (f2 := (19, [.ref 119, .int (60 : Int32), .int (60 : Int32)], [.int (60 : Int32), .ref 119], (121, (upR R 119 0 (some 120)), I, L))) (b := true) rfl rfl ?_
  refine Rc.goL mt_800 0 (f2 := (21, [.ref 119, .int (60 : Int32), .int (60 : Int32)], [.ref 121, .ref 119], nw (121, (upR R 119 0 (some 120)), I, L))) (b := ((Nat.beq (K0 121) (kAT .int) && decide (¬ (60 : Int32) < 0) && Nat.beq (Int32.toNatClampNeg (60 : Int32)) (Z0 121)) && true)) rfl (by decide +kernel) ?_
  rw [(hF.mk1 (m := 122) rfl (by decide)).1]
  have hF := (hF.mk1 (m := 122) rfl (by decide)).2
  refine Rc.goL mt_800 0 (f2 := (24, [.ref 119, .int (60 : Int32), .int (60 : Int32)], [], (122, (upR (upR R 119 0 (some 120)) 119 1 (some 121)), I, L))) (b := true) rfl rfl ?_
  have hF := hF.uR (c := 119) (i := 1) (v := some 121) (by decide)
  refine Rc.goL mt_800 1 (f2 := (27, [.ref 119, .int (60 : Int32), .int (60 : Int32)], [.int (10 : Int32), .ref 119], (122, (upR (upR R 119 0 (some 120)) 119 1 (some 121)), I, L))) (b := true) rfl rfl ?_
  refine Rc.goL mt_800 0 (f2 := (29, [.ref 119, .int (60 : Int32), .int (60 : Int32)], [.ref 122, .ref 119], nw (122, (upR (upR R 119 0 (some 120)) 119 1 (some 121)), I, L))) (b := ((Nat.beq (K0 122) (kAT .int) && decide (¬ (10 : Int32) < 0) && Nat.beq (Int32.toNatClampNeg (10 : Int32)) (Z0 122)) && true)) rfl (by decide +kernel) ?_
  rw [(hF.mk1 (m := 123) rfl (by decide)).1]
  have hF := (hF.mk1 (m := 123) rfl (by decide)).2
  refine Rc.goL mt_800 0 (f2 := (32, [.ref 119, .int (60 : Int32), .int (60 : Int32)], [], (123, (upR (upR (upR R 119 0 (some 120)) 119 1 (some 121)) 119 4 (some 122)), I, L))) (b := true) rfl rfl ?_
  have hF := hF.uR (c := 119) (i := 4) (v := some 122) (by decide)
  refine Rc.goL mt_800 1 (f2 := (35, [.ref 119, .int (60 : Int32), .int (60 : Int32)], [.int (10 : Int32), .ref 119], (123, (upR (upR (upR R 119 0 (some 120)) 119 1 (some 121)) 119 4 (some 122)), I, L))) (b := true) rfl rfl ?_
  refine Rc.goL mt_800 0 (f2 := (37, [.ref 119, .int (60 : Int32), .int (60 : Int32)], [.ref 123, .ref 119], nw (123, (upR (upR (upR R 119 0 (some 120)) 119 1 (some 121)) 119 4 (some 122)), I, L))) (b := ((Nat.beq (K0 123) (kAT .int) && decide (¬ (10 : Int32) < 0) && Nat.beq (Int32.toNatClampNeg (10 : Int32)) (Z0 123)) && true)) rfl (by decide +kernel) ?_
  rw [(hF.mk1 (m := 124) rfl (by decide)).1]
  have hF := (hF.mk1 (m := 124) rfl (by decide)).2
  refine Rc.goL mt_800 0 (f2 := (40, [.ref 119, .int (60 : Int32), .int (60 : Int32)], [], (124, (upR (upR (upR (upR R 119 0 (some 120)) 119 1 (some 121)) 119 4 (some 122)) 119 5 (some 123)), I, L))) (b := true) rfl rfl ?_
  have hF := hF.uR (c := 119) (i := 5) (v := some 123) (by decide)
  refine Rc.goL mt_800 1 (f2 := (43, [.ref 119, .int (60 : Int32), .int (60 : Int32)], [.int (10 : Int32), .ref 119], (124, (upR (upR (upR (upR R 119 0 (some 120)) 119 1 (some 121)) 119 4 (some 122)) 119 5 (some 123)), I, L))) (b := true) rfl rfl ?_
  refine Rc.goL mt_800 0 (f2 := (45, [.ref 119, .int (60 : Int32), .int (60 : Int32)], [.ref 124, .ref 119], nw (124, (upR (upR (upR (upR R 119 0 (some 120)) 119 1 (some 121)) 119 4 (some 122)) 119 5 (some 123)), I, L))) (b := ((Nat.beq (K0 124) (kAT .int) && decide (¬ (10 : Int32) < 0) && Nat.beq (Int32.toNatClampNeg (10 : Int32)) (Z0 124)) && true)) rfl (by decide +kernel) ?_
  rw [(hF.mk1 (m := 125) rfl (by decide)).1]
  have hF := (hF.mk1 (m := 125) rfl (by decide)).2
  refine Rc.goL mt_800 0 (f2 := (48, [.ref 119, .int (60 : Int32), .int (60 : Int32)], [], (125, (upR (upR (upR (upR (upR R 119 0 (some 120)) 119 1 (some 121)) 119 4 (some 122)) 119 5 (some 123)) 119 6 (some 124)), I, L))) (b := true) rfl rfl ?_
  have hF := hF.uR (c := 119) (i := 6) (v := some 124) (by decide)
  refine Rc.goL mt_800 1 (f2 := (51, [.ref 119, .int (60 : Int32), .int (60 : Int32)], [.int (10 : Int32), .ref 119], (125, (upR (upR (upR (upR (upR R 119 0 (some 120)) 119 1 (some 121)) 119 4 (some 122)) 119 5 (some 123)) 119 6 (some 124)), I, L))) (b := true) rfl rfl ?_
  refine Rc.goL mt_800 0 (f2 := (53, [.ref 119, .int (60 : Int32), .int (60 : Int32)], [.ref 125, .ref 119], nw (125, (upR (upR (upR (upR (upR R 119 0 (some 120)) 119 1 (some 121)) 119 4 (some 122)) 119 5 (some 123)) 119 6 (some 124)), I, L))) (b := ((Nat.beq (K0 125) (kAT .int) && decide (¬ (10 : Int32) < 0) && Nat.beq (Int32.toNatClampNeg (10 : Int32)) (Z0 125)) && true)) rfl (by decide +kernel) ?_
  rw [(hF.mk1 (m := 126) rfl (by decide)).1]
  have hF := (hF.mk1 (m := 126) rfl (by decide)).2
  refine Rc.goL mt_800 0 (f2 := (56, [.ref 119, .int (60 : Int32), .int (60 : Int32)], [], (126, (upR (upR (upR (upR (upR (upR R 119 0 (some 120)) 119 1 (some 121)) 119 4 (some 122)) 119 5 (some 123)) 119 6 (some 124)) 119 7 (some 125)), I, L))) (b := true) rfl rfl ?_
  have hF := hF.uR (c := 119) (i := 7) (v := some 125) (by decide)
  refine Rc.goL mt_800 1 (f2 := (59, [.ref 119, .int (60 : Int32), .int (60 : Int32)], [.int (10 : Int32), .ref 119], (126, (upR (upR (upR (upR (upR (upR R 119 0 (some 120)) 119 1 (some 121)) 119 4 (some 122)) 119 5 (some 123)) 119 6 (some 124)) 119 7 (some 125)), I, L))) (b := true) rfl rfl ?_
  refine Rc.goL mt_800 0 (f2 := (61, [.ref 119, .int (60 : Int32), .int (60 : Int32)], [.ref 126, .ref 119], nw (126, (upR (upR (upR (upR (upR (upR R 119 0 (some 120)) 119 1 (some 121)) 119 4 (some 122)) 119 5 (some 123)) 119 6 (some 124)) 119 7 (some 125)), I, L))) (b := ((Nat.beq (K0 126) (kAT .int) && decide (¬ (10 : Int32) < 0) && Nat.beq (Int32.toNatClampNeg (10 : Int32)) (Z0 126)) && true)) rfl (by decide +kernel) ?_
  rw [(hF.mk1 (m := 127) rfl (by decide)).1]
  have hF := (hF.mk1 (m := 127) rfl (by decide)).2
  refine Rc.goL mt_800 0 (f2 := (64, [.ref 119, .int (60 : Int32), .int (60 : Int32)], [], (127, (upR (upR (upR (upR (upR (upR (upR R 119 0 (some 120)) 119 1 (some 121)) 119 4 (some 122)) 119 5 (some 123)) 119 6 (some 124)) 119 7 (some 125)) 119 8 (some 126)), I, L))) (b := true) rfl rfl ?_
  have hF := hF.uR (c := 119) (i := 8) (v := some 126) (by decide)
  exact Rc.ret (v := none) rfl rfl
def rn_800_127 (R : MR) : MR := (upR (upR (upR (upR (upR (upR (upR R 127 0 (some 128)) 127 1 (some 129)) 127 4 (some 130)) 127 5 (some 131)) 127 6 (some 132)) 127 7 (some 133)) 127 8 (some 134))
theorem rn_800_127_o {R : MR} {k : Nat} {x : Option Nat} (h : R 12 k = x) : rn_800_127 R 12 k = x := upR_o rfl (upR_o rfl (upR_o rfl (upR_o rfl (upR_o rfl (upR_o rfl (upR_o rfl h))))))
theorem cf_800_127 {R : MR} {I : MI} {L : ML} (hF : FM 128 R I L) : FM 135 (rn_800_127 R) I L := by
  have hF := (hF.mk1 (m := 129) rfl (by decide)).2
  have hF := hF.uR (c := 127) (i := 0) (v := some 128) (by decide)
  have hF := (hF.mk1 (m := 130) rfl (by decide)).2
  have hF := hF.uR (c := 127) (i := 1) (v := some 129) (by decide)
  have hF := (hF.mk1 (m := 131) rfl (by decide)).2
  have hF := hF.uR (c := 127) (i := 4) (v := some 130) (by decide)
  have hF := (hF.mk1 (m := 132) rfl (by decide)).2
  have hF := hF.uR (c := 127) (i := 5) (v := some 131) (by decide)
  have hF := (hF.mk1 (m := 133) rfl (by decide)).2
  have hF := hF.uR (c := 127) (i := 6) (v := some 132) (by decide)
  have hF := (hF.mk1 (m := 134) rfl (by decide)).2
  have hF := hF.uR (c := 127) (i := 7) (v := some 133) (by decide)
  have hF := (hF.mk1 (m := 135) rfl (by decide)).2
  have hF := hF.uR (c := 127) (i := 8) (v := some 134) (by decide)
  exact hF
set_option maxRecDepth 20000 in
theorem cn_800_127 {d : Nat} (hd : 1 ≤ d) {R : MR} {I : MI} {L : ML} (hF : FM 128 R I L) : Ex d 800 [.ref 127, .int (200 : Int32)] (128, R, I, L) (none, (135, rn_800_127 R, I, L)) := by
  obtain ⟨d, rfl⟩ : ∃ d0, d = d0 + 1 := ⟨d - 1, by omega⟩
  refine Ex.of okm_800 (by omega) (Nat.le_of_ble_eq_true rfl) ?_
  show Rc (d + 1) 800 (0, [.ref 127, .int (200 : Int32), UU], [], (128, R, I, L)) _
  refine Rc.goL mt_800 4 (f2 := (9, [.ref 127, .int (200 : Int32), UU], [.int ((imx (0 : Int32) (200 : Int32)))], (128, R, I, L))) (b := true) rfl rfl ?_
  rw [show imx (0 : Int32) (200 : Int32) = 200 from by decide]
  refine Rc.goL mt_800 2 (f2 := (12, [.ref 127, .int (200 : Int32), .int (200 : Int32)], [.int (200 : Int32), .ref 127], (128, R, I, L))) (b := true) rfl rfl ?_
  refine Rc.goL mt_800 0 (f2 := (14, [.ref 127, .int (200 : Int32), .int (200 : Int32)], [.ref 128, .ref 127], nw (128, R, I, L))) (b := ((Nat.beq (K0 128) (kAT .char) && decide (¬ (200 : Int32) < 0) && Nat.beq (Int32.toNatClampNeg (200 : Int32)) (Z0 128)) && true)) rfl (by decide +kernel) ?_
  rw [(hF.mk1 (m := 129) rfl (by decide)).1]
  have hF := (hF.mk1 (m := 129) rfl (by decide)).2
  refine Rc.goL mt_800 0 (f2 := (17, [.ref 127, .int (200 : Int32), .int (200 : Int32)], [], (129, (upR R 127 0 (some 128)), I, L))) (b := true) rfl rfl ?_
  have hF := hF.uR (c := 127) (i := 0) (v := some 128) (by decide)
  refine Rc.goL mt_800 1 (f2 := (19, [.ref 127, .int (200 : Int32), .int (200 : Int32)], [.int (200 : Int32), .ref 127], (129, (upR R 127 0 (some 128)), I, L))) (b := true) rfl rfl ?_
  refine Rc.goL mt_800 0 (f2 := (21, [.ref 127, .int (200 : Int32), .int (200 : Int32)], [.ref 129, .ref 127], nw (129, (upR R 127 0 (some 128)), I, L))) (b := ((Nat.beq (K0 129) (kAT .int) && decide (¬ (200 : Int32) < 0) && Nat.beq (Int32.toNatClampNeg (200 : Int32)) (Z0 129)) && true)) rfl (by decide +kernel) ?_
  rw [(hF.mk1 (m := 130) rfl (by decide)).1]
  have hF := (hF.mk1 (m := 130) rfl (by decide)).2
  refine Rc.goL mt_800 0 (f2 := (24, [.ref 127, .int (200 : Int32), .int (200 : Int32)], [], (130, (upR (upR R 127 0 (some 128)) 127 1 (some 129)), I, L))) (b := true) rfl rfl ?_
  have hF := hF.uR (c := 127) (i := 1) (v := some 129) (by decide)
  refine Rc.goL mt_800 1 (f2 := (27, [.ref 127, .int (200 : Int32), .int (200 : Int32)], [.int (10 : Int32), .ref 127], (130, (upR (upR R 127 0 (some 128)) 127 1 (some 129)), I, L))) (b := true) rfl rfl ?_
  refine Rc.goL mt_800 0 (f2 := (29, [.ref 127, .int (200 : Int32), .int (200 : Int32)], [.ref 130, .ref 127], nw (130, (upR (upR R 127 0 (some 128)) 127 1 (some 129)), I, L))) (b := ((Nat.beq (K0 130) (kAT .int) && decide (¬ (10 : Int32) < 0) && Nat.beq (Int32.toNatClampNeg (10 : Int32)) (Z0 130)) && true)) rfl (by decide +kernel) ?_
  rw [(hF.mk1 (m := 131) rfl (by decide)).1]
  have hF := (hF.mk1 (m := 131) rfl (by decide)).2
  refine Rc.goL mt_800 0 (f2 := (32, [.ref 127, .int (200 : Int32), .int (200 : Int32)], [], (131, (upR (upR (upR R 127 0 (some 128)) 127 1 (some 129)) 127 4 (some 130)), I, L))) (b := true) rfl rfl ?_
  have hF := hF.uR (c := 127) (i := 4) (v := some 130) (by decide)
  refine Rc.goL mt_800 1 (f2 := (35, [.ref 127, .int (200 : Int32), .int (200 : Int32)], [.int (10 : Int32), .ref 127], (131, (upR (upR (upR R 127 0 (some 128)) 127 1 (some 129)) 127 4 (some 130)), I, L))) (b := true) rfl rfl ?_
  refine Rc.goL mt_800 0 (f2 := (37, [.ref 127, .int (200 : Int32), .int (200 : Int32)], [.ref 131, .ref 127], nw (131, (upR (upR (upR R 127 0 (some 128)) 127 1 (some 129)) 127 4 (some 130)), I, L))) (b := ((Nat.beq (K0 131) (kAT .int) && decide (¬ (10 : Int32) < 0) && Nat.beq (Int32.toNatClampNeg (10 : Int32)) (Z0 131)) && true)) rfl (by decide +kernel) ?_
  rw [(hF.mk1 (m := 132) rfl (by decide)).1]
  have hF := (hF.mk1 (m := 132) rfl (by decide)).2
  refine Rc.goL mt_800 0 (f2 := (40, [.ref 127, .int (200 : Int32), .int (200 : Int32)], [], (132, (upR (upR (upR (upR R 127 0 (some 128)) 127 1 (some 129)) 127 4 (some 130)) 127 5 (some 131)), I, L))) (b := true) rfl rfl ?_
  have hF := hF.uR (c := 127) (i := 5) (v := some 131) (by decide)
  refine Rc.goL mt_800 1 (f2 := (43, [.ref 127, .int (200 : Int32), .int (200 : Int32)], [.int (10 : Int32), .ref 127], (132, (upR (upR (upR (upR R 127 0 (some 128)) 127 1 (some 129)) 127 4 (some 130)) 127 5 (some 131)), I, L))) (b := true) rfl rfl ?_
  refine Rc.goL mt_800 0 (f2 := (45, [.ref 127, .int (200 : Int32), .int (200 : Int32)], [.ref 132, .ref 127], nw (132, (upR (upR (upR (upR R 127 0 (some 128)) 127 1 (some 129)) 127 4 (some 130)) 127 5 (some 131)), I, L))) (b := ((Nat.beq (K0 132) (kAT .int) && decide (¬ (10 : Int32) < 0) && Nat.beq (Int32.toNatClampNeg (10 : Int32)) (Z0 132)) && true)) rfl (by decide +kernel) ?_
  rw [(hF.mk1 (m := 133) rfl (by decide)).1]
  have hF := (hF.mk1 (m := 133) rfl (by decide)).2
  refine Rc.goL mt_800 0 (f2 := (48, [.ref 127, .int (200 : Int32), .int (200 : Int32)], [], (133, (upR (upR (upR (upR (upR R 127 0 (some 128)) 127 1 (some 129)) 127 4 (some 130)) 127 5 (some 131)) 127 6 (some 132)), I, L))) (b := true) rfl rfl ?_
  have hF := hF.uR (c := 127) (i := 6) (v := some 132) (by decide)
  refine Rc.goL mt_800 1 (f2 := (51, [.ref 127, .int (200 : Int32), .int (200 : Int32)], [.int (10 : Int32), .ref 127], (133, (upR (upR (upR (upR (upR R 127 0 (some 128)) 127 1 (some 129)) 127 4 (some 130)) 127 5 (some 131)) 127 6 (some 132)), I, L))) (b := true) rfl rfl ?_
  refine Rc.goL mt_800 0 (f2 := (53, [.ref 127, .int (200 : Int32), .int (200 : Int32)], [.ref 133, .ref 127], nw (133, (upR (upR (upR (upR (upR R 127 0 (some 128)) 127 1 (some 129)) 127 4 (some 130)) 127 5 (some 131)) 127 6 (some 132)), I, L))) (b := ((Nat.beq (K0 133) (kAT .int) && decide (¬ (10 : Int32) < 0) && Nat.beq (Int32.toNatClampNeg (10 : Int32)) (Z0 133)) && true)) rfl (by decide +kernel) ?_
  rw [(hF.mk1 (m := 134) rfl (by decide)).1]
  have hF := (hF.mk1 (m := 134) rfl (by decide)).2
  refine Rc.goL mt_800 0 (f2 := (56, [.ref 127, .int (200 : Int32), .int (200 : Int32)], [], (134, (upR (upR (upR (upR (upR (upR R 127 0 (some 128)) 127 1 (some 129)) 127 4 (some 130)) 127 5 (some 131)) 127 6 (some 132)) 127 7 (some 133)), I, L))) (b := true) rfl rfl ?_
  have hF := hF.uR (c := 127) (i := 7) (v := some 133) (by decide)
  refine Rc.goL mt_800 1 (f2 := (59, [.ref 127, .int (200 : Int32), .int (200 : Int32)], [.int (10 : Int32), .ref 127], (134, (upR (upR (upR (upR (upR (upR R 127 0 (some 128)) 127 1 (some 129)) 127 4 (some 130)) 127 5 (some 131)) 127 6 (some 132)) 127 7 (some 133)), I, L))) (b := true) rfl rfl ?_
  refine Rc.goL mt_800 0 (f2 := (61, [.ref 127, .int (200 : Int32), .int (200 : Int32)], [.ref 134, .ref 127], nw (134, (upR (upR (upR (upR (upR (upR R 127 0 (some 128)) 127 1 (some 129)) 127 4 (some 130)) 127 5 (some 131)) 127 6 (some 132)) 127 7 (some 133)), I, L))) (b := ((Nat.beq (K0 134) (kAT .int) && decide (¬ (10 : Int32) < 0) && Nat.beq (Int32.toNatClampNeg (10 : Int32)) (Z0 134)) && true)) rfl (by decide +kernel) ?_
  rw [(hF.mk1 (m := 135) rfl (by decide)).1]
  have hF := (hF.mk1 (m := 135) rfl (by decide)).2
  refine Rc.goL mt_800 0 (f2 := (64, [.ref 127, .int (200 : Int32), .int (200 : Int32)], [], (135, (upR (upR (upR (upR (upR (upR (upR R 127 0 (some 128)) 127 1 (some 129)) 127 4 (some 130)) 127 5 (some 131)) 127 6 (some 132)) 127 7 (some 133)) 127 8 (some 134)), I, L))) (b := true) rfl rfl ?_
  have hF := hF.uR (c := 127) (i := 8) (v := some 134) (by decide)
  exact Rc.ret (v := none) rfl rfl
def rn_800_135 (R : MR) : MR := (upR (upR (upR (upR (upR (upR (upR R 135 0 (some 136)) 135 1 (some 137)) 135 4 (some 138)) 135 5 (some 139)) 135 6 (some 140)) 135 7 (some 141)) 135 8 (some 142))
theorem rn_800_135_o {R : MR} {k : Nat} {x : Option Nat} (h : R 12 k = x) : rn_800_135 R 12 k = x := upR_o rfl (upR_o rfl (upR_o rfl (upR_o rfl (upR_o rfl (upR_o rfl (upR_o rfl h))))))
theorem cf_800_135 {R : MR} {I : MI} {L : ML} (hF : FM 136 R I L) : FM 143 (rn_800_135 R) I L := by
  have hF := (hF.mk1 (m := 137) rfl (by decide)).2
  have hF := hF.uR (c := 135) (i := 0) (v := some 136) (by decide)
  have hF := (hF.mk1 (m := 138) rfl (by decide)).2
  have hF := hF.uR (c := 135) (i := 1) (v := some 137) (by decide)
  have hF := (hF.mk1 (m := 139) rfl (by decide)).2
  have hF := hF.uR (c := 135) (i := 4) (v := some 138) (by decide)
  have hF := (hF.mk1 (m := 140) rfl (by decide)).2
  have hF := hF.uR (c := 135) (i := 5) (v := some 139) (by decide)
  have hF := (hF.mk1 (m := 141) rfl (by decide)).2
  have hF := hF.uR (c := 135) (i := 6) (v := some 140) (by decide)
  have hF := (hF.mk1 (m := 142) rfl (by decide)).2
  have hF := hF.uR (c := 135) (i := 7) (v := some 141) (by decide)
  have hF := (hF.mk1 (m := 143) rfl (by decide)).2
  have hF := hF.uR (c := 135) (i := 8) (v := some 142) (by decide)
  exact hF
set_option maxRecDepth 20000 in
theorem cn_800_135 {d : Nat} (hd : 1 ≤ d) {R : MR} {I : MI} {L : ML} (hF : FM 136 R I L) : Ex d 800 [.ref 135, .int (60 : Int32)] (136, R, I, L) (none, (143, rn_800_135 R, I, L)) := by
  obtain ⟨d, rfl⟩ : ∃ d0, d = d0 + 1 := ⟨d - 1, by omega⟩
  refine Ex.of okm_800 (by omega) (Nat.le_of_ble_eq_true rfl) ?_
  show Rc (d + 1) 800 (0, [.ref 135, .int (60 : Int32), UU], [], (136, R, I, L)) _
  refine Rc.goL mt_800 4 (f2 := (9, [.ref 135, .int (60 : Int32), UU], [.int ((imx (0 : Int32) (60 : Int32)))], (136, R, I, L))) (b := true) rfl rfl ?_
  rw [show imx (0 : Int32) (60 : Int32) = 60 from by decide]
  refine Rc.goL mt_800 2 (f2 := (12, [.ref 135, .int (60 : Int32), .int (60 : Int32)], [.int (60 : Int32), .ref 135], (136, R, I, L))) (b := true) rfl rfl ?_
  refine Rc.goL mt_800 0 (f2 := (14, [.ref 135, .int (60 : Int32), .int (60 : Int32)], [.ref 136, .ref 135], nw (136, R, I, L))) (b := ((Nat.beq (K0 136) (kAT .char) && decide (¬ (60 : Int32) < 0) && Nat.beq (Int32.toNatClampNeg (60 : Int32)) (Z0 136)) && true)) rfl (by decide +kernel) ?_
  rw [(hF.mk1 (m := 137) rfl (by decide)).1]
  have hF := (hF.mk1 (m := 137) rfl (by decide)).2
  refine Rc.goL mt_800 0 (f2 := (17, [.ref 135, .int (60 : Int32), .int (60 : Int32)], [], (137, (upR R 135 0 (some 136)), I, L))) (b := true) rfl rfl ?_
  have hF := hF.uR (c := 135) (i := 0) (v := some 136) (by decide)
  refine Rc.goL mt_800 1 (f2 := (19, [.ref 135, .int (60 : Int32), .int (60 : Int32)], [.int (60 : Int32), .ref 135], (137, (upR R 135 0 (some 136)), I, L))) (b := true) rfl rfl ?_
  refine Rc.goL mt_800 0 (f2 := (21, [.ref 135, .int (60 : Int32), .int (60 : Int32)], [.ref 137, .ref 135], nw (137, (upR R 135 0 (some 136)), I, L))) (b := ((Nat.beq (K0 137) (kAT .int) && decide (¬ (60 : Int32) < 0) && Nat.beq (Int32.toNatClampNeg (60 : Int32)) (Z0 137)) && true)) rfl (by decide +kernel) ?_
  rw [(hF.mk1 (m := 138) rfl (by decide)).1]
  have hF := (hF.mk1 (m := 138) rfl (by decide)).2
  refine Rc.goL mt_800 0 (f2 := (24, [.ref 135, .int (60 : Int32), .int (60 : Int32)], [], (138, (upR (upR R 135 0 (some 136)) 135 1 (some 137)), I, L))) (b := true) rfl rfl ?_
  have hF := hF.uR (c := 135) (i := 1) (v := some 137) (by decide)
  refine Rc.goL mt_800 1 (f2 := (27, [.ref 135, .int (60 : Int32), .int (60 : Int32)], [.int (10 : Int32), .ref 135], (138, (upR (upR R 135 0 (some 136)) 135 1 (some 137)), I, L))) (b := true) rfl rfl ?_
  refine Rc.goL mt_800 0 (f2 := (29, [.ref 135, .int (60 : Int32), .int (60 : Int32)], [.ref 138, .ref 135], nw (138, (upR (upR R 135 0 (some 136)) 135 1 (some 137)), I, L))) (b := ((Nat.beq (K0 138) (kAT .int) && decide (¬ (10 : Int32) < 0) && Nat.beq (Int32.toNatClampNeg (10 : Int32)) (Z0 138)) && true)) rfl (by decide +kernel) ?_
  rw [(hF.mk1 (m := 139) rfl (by decide)).1]
  have hF := (hF.mk1 (m := 139) rfl (by decide)).2
  refine Rc.goL mt_800 0 (f2 := (32, [.ref 135, .int (60 : Int32), .int (60 : Int32)], [], (139, (upR (upR (upR R 135 0 (some 136)) 135 1 (some 137)) 135 4 (some 138)), I, L))) (b := true) rfl rfl ?_
  have hF := hF.uR (c := 135) (i := 4) (v := some 138) (by decide)
  refine Rc.goL mt_800 1 (f2 := (35, [.ref 135, .int (60 : Int32), .int (60 : Int32)], [.int (10 : Int32), .ref 135], (139, (upR (upR (upR R 135 0 (some 136)) 135 1 (some 137)) 135 4 (some 138)), I, L))) (b := true) rfl rfl ?_
  refine Rc.goL mt_800 0 (f2 := (37, [.ref 135, .int (60 : Int32), .int (60 : Int32)], [.ref 139, .ref 135], nw (139, (upR (upR (upR R 135 0 (some 136)) 135 1 (some 137)) 135 4 (some 138)), I, L))) (b := ((Nat.beq (K0 139) (kAT .int) && decide (¬ (10 : Int32) < 0) && Nat.beq (Int32.toNatClampNeg (10 : Int32)) (Z0 139)) && true)) rfl (by decide +kernel) ?_
  rw [(hF.mk1 (m := 140) rfl (by decide)).1]
  have hF := (hF.mk1 (m := 140) rfl (by decide)).2
  refine Rc.goL mt_800 0 (f2 := (40, [.ref 135, .int (60 : Int32), .int (60 : Int32)], [], (140, (upR (upR (upR (upR R 135 0 (some 136)) 135 1 (some 137)) 135 4 (some 138)) 135 5 (some 139)), I, L))) (b := true) rfl rfl ?_
  have hF := hF.uR (c := 135) (i := 5) (v := some 139) (by decide)
  refine Rc.goL mt_800 1 (f2 := (43, [.ref 135, .int (60 : Int32), .int (60 : Int32)], [.int (10 : Int32), .ref 135], (140, (upR (upR (upR (upR R 135 0 (some 136)) 135 1 (some 137)) 135 4 (some 138)) 135 5 (some 139)), I, L))) (b := true) rfl rfl ?_
  refine Rc.goL mt_800 0 (f2 := (45, [.ref 135, .int (60 : Int32), .int (60 : Int32)], [.ref 140, .ref 135], nw (140, (upR (upR (upR (upR R 135 0 (some 136)) 135 1 (some 137)) 135 4 (some 138)) 135 5 (some 139)), I, L))) (b := ((Nat.beq (K0 140) (kAT .int) && decide (¬ (10 : Int32) < 0) && Nat.beq (Int32.toNatClampNeg (10 : Int32)) (Z0 140)) && true)) rfl (by decide +kernel) ?_
  rw [(hF.mk1 (m := 141) rfl (by decide)).1]
  have hF := (hF.mk1 (m := 141) rfl (by decide)).2
  refine Rc.goL mt_800 0 (f2 := (48, [.ref 135, .int (60 : Int32), .int (60 : Int32)], [], (141, (upR (upR (upR (upR (upR R 135 0 (some 136)) 135 1 (some 137)) 135 4 (some 138)) 135 5 (some 139)) 135 6 (some 140)), I, L))) (b := true) rfl rfl ?_
  have hF := hF.uR (c := 135) (i := 6) (v := some 140) (by decide)
  refine Rc.goL mt_800 1 (f2 := (51, [.ref 135, .int (60 : Int32), .int (60 : Int32)], [.int (10 : Int32), .ref 135], (141, (upR (upR (upR (upR (upR R 135 0 (some 136)) 135 1 (some 137)) 135 4 (some 138)) 135 5 (some 139)) 135 6 (some 140)), I, L))) (b := true) rfl rfl ?_
  refine Rc.goL mt_800 0 (f2 := (53, [.ref 135, .int (60 : Int32), .int (60 : Int32)], [.ref 141, .ref 135], nw (141, (upR (upR (upR (upR (upR R 135 0 (some 136)) 135 1 (some 137)) 135 4 (some 138)) 135 5 (some 139)) 135 6 (some 140)), I, L))) (b := ((Nat.beq (K0 141) (kAT .int) && decide (¬ (10 : Int32) < 0) && Nat.beq (Int32.toNatClampNeg (10 : Int32)) (Z0 141)) && true)) rfl (by decide +kernel) ?_
  rw [(hF.mk1 (m := 142) rfl (by decide)).1]
  have hF := (hF.mk1 (m := 142) rfl (by decide)).2
  refine Rc.goL mt_800 0 (f2 := (56, [.ref 135, .int (60 : Int32), .int (60 : Int32)], [], (142, (upR (upR (upR (upR (upR (upR R 135 0 (some 136)) 135 1 (some 137)) 135 4 (some 138)) 135 5 (some 139)) 135 6 (some 140)) 135 7 (some 141)), I, L))) (b := true) rfl rfl ?_
  have hF := hF.uR (c := 135) (i := 7) (v := some 141) (by decide)
  refine Rc.goL mt_800 1 (f2 := (59, [.ref 135, .int (60 : Int32), .int (60 : Int32)], [.int (10 : Int32), .ref 135], (142, (upR (upR (upR (upR (upR (upR R 135 0 (some 136)) 135 1 (some 137)) 135 4 (some 138)) 135 5 (some 139)) 135 6 (some 140)) 135 7 (some 141)), I, L))) (b := true) rfl rfl ?_
  refine Rc.goL mt_800 0 (f2 := (61, [.ref 135, .int (60 : Int32), .int (60 : Int32)], [.ref 142, .ref 135], nw (142, (upR (upR (upR (upR (upR (upR R 135 0 (some 136)) 135 1 (some 137)) 135 4 (some 138)) 135 5 (some 139)) 135 6 (some 140)) 135 7 (some 141)), I, L))) (b := ((Nat.beq (K0 142) (kAT .int) && decide (¬ (10 : Int32) < 0) && Nat.beq (Int32.toNatClampNeg (10 : Int32)) (Z0 142)) && true)) rfl (by decide +kernel) ?_
  rw [(hF.mk1 (m := 143) rfl (by decide)).1]
  have hF := (hF.mk1 (m := 143) rfl (by decide)).2
  refine Rc.goL mt_800 0 (f2 := (64, [.ref 135, .int (60 : Int32), .int (60 : Int32)], [], (143, (upR (upR (upR (upR (upR (upR (upR R 135 0 (some 136)) 135 1 (some 137)) 135 4 (some 138)) 135 5 (some 139)) 135 6 (some 140)) 135 7 (some 141)) 135 8 (some 142)), I, L))) (b := true) rfl rfl ?_
  have hF := hF.uR (c := 135) (i := 8) (v := some 142) (by decide)
  exact Rc.ret (v := none) rfl rfl
def rn_800_143 (R : MR) : MR := (upR (upR (upR (upR (upR (upR (upR R 143 0 (some 144)) 143 1 (some 145)) 143 4 (some 146)) 143 5 (some 147)) 143 6 (some 148)) 143 7 (some 149)) 143 8 (some 150))
theorem rn_800_143_o {R : MR} {k : Nat} {x : Option Nat} (h : R 12 k = x) : rn_800_143 R 12 k = x := upR_o rfl (upR_o rfl (upR_o rfl (upR_o rfl (upR_o rfl (upR_o rfl (upR_o rfl h))))))
theorem cf_800_143 {R : MR} {I : MI} {L : ML} (hF : FM 144 R I L) : FM 151 (rn_800_143 R) I L := by
  have hF := (hF.mk1 (m := 145) rfl (by decide)).2
  have hF := hF.uR (c := 143) (i := 0) (v := some 144) (by decide)
  have hF := (hF.mk1 (m := 146) rfl (by decide)).2
  have hF := hF.uR (c := 143) (i := 1) (v := some 145) (by decide)
  have hF := (hF.mk1 (m := 147) rfl (by decide)).2
  have hF := hF.uR (c := 143) (i := 4) (v := some 146) (by decide)
  have hF := (hF.mk1 (m := 148) rfl (by decide)).2
  have hF := hF.uR (c := 143) (i := 5) (v := some 147) (by decide)
  have hF := (hF.mk1 (m := 149) rfl (by decide)).2
  have hF := hF.uR (c := 143) (i := 6) (v := some 148) (by decide)
  have hF := (hF.mk1 (m := 150) rfl (by decide)).2
  have hF := hF.uR (c := 143) (i := 7) (v := some 149) (by decide)
  have hF := (hF.mk1 (m := 151) rfl (by decide)).2
  have hF := hF.uR (c := 143) (i := 8) (v := some 150) (by decide)
  exact hF
set_option maxRecDepth 20000 in
theorem cn_800_143 {d : Nat} (hd : 1 ≤ d) {R : MR} {I : MI} {L : ML} (hF : FM 144 R I L) : Ex d 800 [.ref 143, .int (200 : Int32)] (144, R, I, L) (none, (151, rn_800_143 R, I, L)) := by
  obtain ⟨d, rfl⟩ : ∃ d0, d = d0 + 1 := ⟨d - 1, by omega⟩
  refine Ex.of okm_800 (by omega) (Nat.le_of_ble_eq_true rfl) ?_
  show Rc (d + 1) 800 (0, [.ref 143, .int (200 : Int32), UU], [], (144, R, I, L)) _
  refine Rc.goL mt_800 4 (f2 := (9, [.ref 143, .int (200 : Int32), UU], [.int ((imx (0 : Int32) (200 : Int32)))], (144, R, I, L))) (b := true) rfl rfl ?_
  rw [show imx (0 : Int32) (200 : Int32) = 200 from by decide]
  refine Rc.goL mt_800 2 (f2 := (12, [.ref 143, .int (200 : Int32), .int (200 : Int32)], [.int (200 : Int32), .ref 143], (144, R, I, L))) (b := true) rfl rfl ?_
  refine Rc.goL mt_800 0 (f2 := (14, [.ref 143, .int (200 : Int32), .int (200 : Int32)], [.ref 144, .ref 143], nw (144, R, I, L))) (b := ((Nat.beq (K0 144) (kAT .char) && decide (¬ (200 : Int32) < 0) && Nat.beq (Int32.toNatClampNeg (200 : Int32)) (Z0 144)) && true)) rfl (by decide +kernel) ?_
  rw [(hF.mk1 (m := 145) rfl (by decide)).1]
  have hF := (hF.mk1 (m := 145) rfl (by decide)).2
  refine Rc.goL mt_800 0 (f2 := (17, [.ref 143, .int (200 : Int32), .int (200 : Int32)], [], (145, (upR R 143 0 (some 144)), I, L))) (b := true) rfl rfl ?_
  have hF := hF.uR (c := 143) (i := 0) (v := some 144) (by decide)
  refine Rc.goL mt_800 1 (f2 := (19, [.ref 143, .int (200 : Int32), .int (200 : Int32)], [.int (200 : Int32), .ref 143], (145, (upR R 143 0 (some 144)), I, L))) (b := true) rfl rfl ?_
  refine Rc.goL mt_800 0 (f2 := (21, [.ref 143, .int (200 : Int32), .int (200 : Int32)], [.ref 145, .ref 143], nw (145, (upR R 143 0 (some 144)), I, L))) (b := ((Nat.beq (K0 145) (kAT .int) && decide (¬ (200 : Int32) < 0) && Nat.beq (Int32.toNatClampNeg (200 : Int32)) (Z0 145)) && true)) rfl (by decide +kernel) ?_
  rw [(hF.mk1 (m := 146) rfl (by decide)).1]
  have hF := (hF.mk1 (m := 146) rfl (by decide)).2
  refine Rc.goL mt_800 0 (f2 := (24, [.ref 143, .int (200 : Int32), .int (200 : Int32)], [], (146, (upR (upR R 143 0 (some 144)) 143 1 (some 145)), I, L))) (b := true) rfl rfl ?_
  have hF := hF.uR (c := 143) (i := 1) (v := some 145) (by decide)
  refine Rc.goL mt_800 1 (f2 := (27, [.ref 143, .int (200 : Int32), .int (200 : Int32)], [.int (10 : Int32), .ref 143], (146, (upR (upR R 143 0 (some 144)) 143 1 (some 145)), I, L))) (b := true) rfl rfl ?_
  refine Rc.goL mt_800 0 (f2 := (29, [.ref 143, .int (200 : Int32), .int (200 : Int32)], [.ref 146, .ref 143], nw (146, (upR (upR R 143 0 (some 144)) 143 1 (some 145)), I, L))) (b := ((Nat.beq (K0 146) (kAT .int) && decide (¬ (10 : Int32) < 0) && Nat.beq (Int32.toNatClampNeg (10 : Int32)) (Z0 146)) && true)) rfl (by decide +kernel) ?_
  rw [(hF.mk1 (m := 147) rfl (by decide)).1]
  have hF := (hF.mk1 (m := 147) rfl (by decide)).2
  refine Rc.goL mt_800 0 (f2 := (32, [.ref 143, .int (200 : Int32), .int (200 : Int32)], [], (147, (upR (upR (upR R 143 0 (some 144)) 143 1 (some 145)) 143 4 (some 146)), I, L))) (b := true) rfl rfl ?_
  have hF := hF.uR (c := 143) (i := 4) (v := some 146) (by decide)
  refine Rc.goL mt_800 1 (f2 := (35, [.ref 143, .int (200 : Int32), .int (200 : Int32)], [.int (10 : Int32), .ref 143], (147, (upR (upR (upR R 143 0 (some 144)) 143 1 (some 145)) 143 4 (some 146)), I, L))) (b := true) rfl rfl ?_
  refine Rc.goL mt_800 0 (f2 := (37, [.ref 143, .int (200 : Int32), .int (200 : Int32)], [.ref 147, .ref 143], nw (147, (upR (upR (upR R 143 0 (some 144)) 143 1 (some 145)) 143 4 (some 146)), I, L))) (b := ((Nat.beq (K0 147) (kAT .int) && decide (¬ (10 : Int32) < 0) && Nat.beq (Int32.toNatClampNeg (10 : Int32)) (Z0 147)) && true)) rfl (by decide +kernel) ?_
  rw [(hF.mk1 (m := 148) rfl (by decide)).1]
  have hF := (hF.mk1 (m := 148) rfl (by decide)).2
  refine Rc.goL mt_800 0 (f2 := (40, [.ref 143, .int (200 : Int32), .int (200 : Int32)], [], (148, (upR (upR (upR (upR R 143 0 (some 144)) 143 1 (some 145)) 143 4 (some 146)) 143 5 (some 147)), I, L))) (b := true) rfl rfl ?_
  have hF := hF.uR (c := 143) (i := 5) (v := some 147) (by decide)
  refine Rc.goL mt_800 1 (f2 := (43, [.ref 143, .int (200 : Int32), .int (200 : Int32)], [.int (10 : Int32), .ref 143], (148, (upR (upR (upR (upR R 143 0 (some 144)) 143 1 (some 145)) 143 4 (some 146)) 143 5 (some 147)), I, L))) (b := true) rfl rfl ?_
  refine Rc.goL mt_800 0 (f2 := (45, [.ref 143, .int (200 : Int32), .int (200 : Int32)], [.ref 148, .ref 143], nw (148, (upR (upR (upR (upR R 143 0 (some 144)) 143 1 (some 145)) 143 4 (some 146)) 143 5 (some 147)), I, L))) (b := ((Nat.beq (K0 148) (kAT .int) && decide (¬ (10 : Int32) < 0) && Nat.beq (Int32.toNatClampNeg (10 : Int32)) (Z0 148)) && true)) rfl (by decide +kernel) ?_
  rw [(hF.mk1 (m := 149) rfl (by decide)).1]
  have hF := (hF.mk1 (m := 149) rfl (by decide)).2
  refine Rc.goL mt_800 0 (f2 := (48, [.ref 143, .int (200 : Int32), .int (200 : Int32)], [], (149, (upR (upR (upR (upR (upR R 143 0 (some 144)) 143 1 (some 145)) 143 4 (some 146)) 143 5 (some 147)) 143 6 (some 148)), I, L))) (b := true) rfl rfl ?_
  have hF := hF.uR (c := 143) (i := 6) (v := some 148) (by decide)
  refine Rc.goL mt_800 1 (f2 := (51, [.ref 143, .int (200 : Int32), .int (200 : Int32)], [.int (10 : Int32), .ref 143], (149, (upR (upR (upR (upR (upR R 143 0 (some 144)) 143 1 (some 145)) 143 4 (some 146)) 143 5 (some 147)) 143 6 (some 148)), I, L))) (b := true) rfl rfl ?_
  refine Rc.goL mt_800 0 (f2 := (53, [.ref 143, .int (200 : Int32), .int (200 : Int32)], [.ref 149, .ref 143], nw (149, (upR (upR (upR (upR (upR R 143 0 (some 144)) 143 1 (some 145)) 143 4 (some 146)) 143 5 (some 147)) 143 6 (some 148)), I, L))) (b := ((Nat.beq (K0 149) (kAT .int) && decide (¬ (10 : Int32) < 0) && Nat.beq (Int32.toNatClampNeg (10 : Int32)) (Z0 149)) && true)) rfl (by decide +kernel) ?_
  rw [(hF.mk1 (m := 150) rfl (by decide)).1]
  have hF := (hF.mk1 (m := 150) rfl (by decide)).2
  refine Rc.goL mt_800 0 (f2 := (56, [.ref 143, .int (200 : Int32), .int (200 : Int32)], [], (150, (upR (upR (upR (upR (upR (upR R 143 0 (some 144)) 143 1 (some 145)) 143 4 (some 146)) 143 5 (some 147)) 143 6 (some 148)) 143 7 (some 149)), I, L))) (b := true) rfl rfl ?_
  have hF := hF.uR (c := 143) (i := 7) (v := some 149) (by decide)
  refine Rc.goL mt_800 1 (f2 := (59, [.ref 143, .int (200 : Int32), .int (200 : Int32)], [.int (10 : Int32), .ref 143], (150, (upR (upR (upR (upR (upR (upR R 143 0 (some 144)) 143 1 (some 145)) 143 4 (some 146)) 143 5 (some 147)) 143 6 (some 148)) 143 7 (some 149)), I, L))) (b := true) rfl rfl ?_
  refine Rc.goL mt_800 0 (f2 := (61, [.ref 143, .int (200 : Int32), .int (200 : Int32)], [.ref 150, .ref 143], nw (150, (upR (upR (upR (upR (upR (upR R 143 0 (some 144)) 143 1 (some 145)) 143 4 (some 146)) 143 5 (some 147)) 143 6 (some 148)) 143 7 (some 149)), I, L))) (b := ((Nat.beq (K0 150) (kAT .int) && decide (¬ (10 : Int32) < 0) && Nat.beq (Int32.toNatClampNeg (10 : Int32)) (Z0 150)) && true)) rfl (by decide +kernel) ?_
  rw [(hF.mk1 (m := 151) rfl (by decide)).1]
  have hF := (hF.mk1 (m := 151) rfl (by decide)).2
  refine Rc.goL mt_800 0 (f2 := (64, [.ref 143, .int (200 : Int32), .int (200 : Int32)], [], (151, (upR (upR (upR (upR (upR (upR (upR R 143 0 (some 144)) 143 1 (some 145)) 143 4 (some 146)) 143 5 (some 147)) 143 6 (some 148)) 143 7 (some 149)) 143 8 (some 150)), I, L))) (b := true) rfl rfl ?_
  have hF := hF.uR (c := 143) (i := 8) (v := some 150) (by decide)
  exact Rc.ret (v := none) rfl rfl
def rn_800_151 (R : MR) : MR := (upR (upR (upR (upR (upR (upR (upR R 151 0 (some 152)) 151 1 (some 153)) 151 4 (some 154)) 151 5 (some 155)) 151 6 (some 156)) 151 7 (some 157)) 151 8 (some 158))
theorem rn_800_151_o {R : MR} {k : Nat} {x : Option Nat} (h : R 12 k = x) : rn_800_151 R 12 k = x := upR_o rfl (upR_o rfl (upR_o rfl (upR_o rfl (upR_o rfl (upR_o rfl (upR_o rfl h))))))
theorem cf_800_151 {R : MR} {I : MI} {L : ML} (hF : FM 152 R I L) : FM 159 (rn_800_151 R) I L := by
  have hF := (hF.mk1 (m := 153) rfl (by decide)).2
  have hF := hF.uR (c := 151) (i := 0) (v := some 152) (by decide)
  have hF := (hF.mk1 (m := 154) rfl (by decide)).2
  have hF := hF.uR (c := 151) (i := 1) (v := some 153) (by decide)
  have hF := (hF.mk1 (m := 155) rfl (by decide)).2
  have hF := hF.uR (c := 151) (i := 4) (v := some 154) (by decide)
  have hF := (hF.mk1 (m := 156) rfl (by decide)).2
  have hF := hF.uR (c := 151) (i := 5) (v := some 155) (by decide)
  have hF := (hF.mk1 (m := 157) rfl (by decide)).2
  have hF := hF.uR (c := 151) (i := 6) (v := some 156) (by decide)
  have hF := (hF.mk1 (m := 158) rfl (by decide)).2
  have hF := hF.uR (c := 151) (i := 7) (v := some 157) (by decide)
  have hF := (hF.mk1 (m := 159) rfl (by decide)).2
  have hF := hF.uR (c := 151) (i := 8) (v := some 158) (by decide)
  exact hF
set_option maxRecDepth 20000 in
theorem cn_800_151 {d : Nat} (hd : 1 ≤ d) {R : MR} {I : MI} {L : ML} (hF : FM 152 R I L) : Ex d 800 [.ref 151, .int (60 : Int32)] (152, R, I, L) (none, (159, rn_800_151 R, I, L)) := by
  obtain ⟨d, rfl⟩ : ∃ d0, d = d0 + 1 := ⟨d - 1, by omega⟩
  refine Ex.of okm_800 (by omega) (Nat.le_of_ble_eq_true rfl) ?_
  show Rc (d + 1) 800 (0, [.ref 151, .int (60 : Int32), UU], [], (152, R, I, L)) _
  refine Rc.goL mt_800 4 (f2 := (9, [.ref 151, .int (60 : Int32), UU], [.int ((imx (0 : Int32) (60 : Int32)))], (152, R, I, L))) (b := true) rfl rfl ?_
  rw [show imx (0 : Int32) (60 : Int32) = 60 from by decide]
  refine Rc.goL mt_800 2 (f2 := (12, [.ref 151, .int (60 : Int32), .int (60 : Int32)], [.int (60 : Int32), .ref 151], (152, R, I, L))) (b := true) rfl rfl ?_
  refine Rc.goL mt_800 0 (f2 := (14, [.ref 151, .int (60 : Int32), .int (60 : Int32)], [.ref 152, .ref 151], nw (152, R, I, L))) (b := ((Nat.beq (K0 152) (kAT .char) && decide (¬ (60 : Int32) < 0) && Nat.beq (Int32.toNatClampNeg (60 : Int32)) (Z0 152)) && true)) rfl (by decide +kernel) ?_
  rw [(hF.mk1 (m := 153) rfl (by decide)).1]
  have hF := (hF.mk1 (m := 153) rfl (by decide)).2
  refine Rc.goL mt_800 0 (f2 := (17, [.ref 151, .int (60 : Int32), .int (60 : Int32)], [], (153, (upR R 151 0 (some 152)), I, L))) (b := true) rfl rfl ?_
  have hF := hF.uR (c := 151) (i := 0) (v := some 152) (by decide)
  refine Rc.goL mt_800 1 (f2 := (19, [.ref 151, .int (60 : Int32), .int (60 : Int32)], [.int (60 : Int32), .ref 151], (153, (upR R 151 0 (some 152)), I, L))) (b := true) rfl rfl ?_
  refine Rc.goL mt_800 0 (f2 := (21, [.ref 151, .int (60 : Int32), .int (60 : Int32)], [.ref 153, .ref 151], nw (153, (upR R 151 0 (some 152)), I, L))) (b := ((Nat.beq (K0 153) (kAT .int) && decide (¬ (60 : Int32) < 0) && Nat.beq (Int32.toNatClampNeg (60 : Int32)) (Z0 153)) && true)) rfl (by decide +kernel) ?_
  rw [(hF.mk1 (m := 154) rfl (by decide)).1]
  have hF := (hF.mk1 (m := 154) rfl (by decide)).2
  refine Rc.goL mt_800 0 (f2 := (24, [.ref 151, .int (60 : Int32), .int (60 : Int32)], [], (154, (upR (upR R 151 0 (some 152)) 151 1 (some 153)), I, L))) (b := true) rfl rfl ?_
  have hF := hF.uR (c := 151) (i := 1) (v := some 153) (by decide)
  refine Rc.goL mt_800 1 (f2 := (27, [.ref 151, .int (60 : Int32), .int (60 : Int32)], [.int (10 : Int32), .ref 151], (154, (upR (upR R 151 0 (some 152)) 151 1 (some 153)), I, L))) (b := true) rfl rfl ?_
  refine Rc.goL mt_800 0 (f2 := (29, [.ref 151, .int (60 : Int32), .int (60 : Int32)], [.ref 154, .ref 151], nw (154, (upR (upR R 151 0 (some 152)) 151 1 (some 153)), I, L))) (b := ((Nat.beq (K0 154) (kAT .int) && decide (¬ (10 : Int32) < 0) && Nat.beq (Int32.toNatClampNeg (10 : Int32)) (Z0 154)) && true)) rfl (by decide +kernel) ?_
  rw [(hF.mk1 (m := 155) rfl (by decide)).1]
  have hF := (hF.mk1 (m := 155) rfl (by decide)).2
  refine Rc.goL mt_800 0 (f2 := (32, [.ref 151, .int (60 : Int32), .int (60 : Int32)], [], (155, (upR (upR (upR R 151 0 (some 152)) 151 1 (some 153)) 151 4 (some 154)), I, L))) (b := true) rfl rfl ?_
  have hF := hF.uR (c := 151) (i := 4) (v := some 154) (by decide)
  refine Rc.goL mt_800 1 (f2 := (35, [.ref 151, .int (60 : Int32), .int (60 : Int32)], [.int (10 : Int32), .ref 151], (155, (upR (upR (upR R 151 0 (some 152)) 151 1 (some 153)) 151 4 (some 154)), I, L))) (b := true) rfl rfl ?_
  refine Rc.goL mt_800 0 (f2 := (37, [.ref 151, .int (60 : Int32), .int (60 : Int32)], [.ref 155, .ref 151], nw (155, (upR (upR (upR R 151 0 (some 152)) 151 1 (some 153)) 151 4 (some 154)), I, L))) (b := ((Nat.beq (K0 155) (kAT .int) && decide (¬ (10 : Int32) < 0) && Nat.beq (Int32.toNatClampNeg (10 : Int32)) (Z0 155)) && true)) rfl (by decide +kernel) ?_
  rw [(hF.mk1 (m := 156) rfl (by decide)).1]
  have hF := (hF.mk1 (m := 156) rfl (by decide)).2
  refine Rc.goL mt_800 0 (f2 := (40, [.ref 151, .int (60 : Int32), .int (60 : Int32)], [], (156, (upR (upR (upR (upR R 151 0 (some 152)) 151 1 (some 153)) 151 4 (some 154)) 151 5 (some 155)), I, L))) (b := true) rfl rfl ?_
  have hF := hF.uR (c := 151) (i := 5) (v := some 155) (by decide)
  refine Rc.goL mt_800 1 (f2 := (43, [.ref 151, .int (60 : Int32), .int (60 : Int32)], [.int (10 : Int32), .ref 151], (156, (upR (upR (upR (upR R 151 0 (some 152)) 151 1 (some 153)) 151 4 (some 154)) 151 5 (some 155)), I, L))) (b := true) rfl rfl ?_
  refine Rc.goL mt_800 0 (f2 := (45, [.ref 151, .int (60 : Int32), .int (60 : Int32)], [.ref 156, .ref 151], nw (156, (upR (upR (upR (upR R 151 0 (some 152)) 151 1 (some 153)) 151 4 (some 154)) 151 5 (some 155)), I, L))) (b := ((Nat.beq (K0 156) (kAT .int) && decide (¬ (10 : Int32) < 0) && Nat.beq (Int32.toNatClampNeg (10 : Int32)) (Z0 156)) && true)) rfl (by decide +kernel) ?_
  rw [(hF.mk1 (m := 157) rfl (by decide)).1]
  have hF := (hF.mk1 (m := 157) rfl (by decide)).2
  refine Rc.goL mt_800 0 (f2 := (48, [.ref 151, .int (60 : Int32), .int (60 : Int32)], [], (157, (upR (upR (upR (upR (upR R 151 0 (some 152)) 151 1 (some 153)) 151 4 (some 154)) 151 5 (some 155)) 151 6 (some 156)), I, L))) (b := true) rfl rfl ?_
  have hF := hF.uR (c := 151) (i := 6) (v := some 156) (by decide)
  refine Rc.goL mt_800 1 (f2 := (51, [.ref 151, .int (60 : Int32), .int (60 : Int32)], [.int (10 : Int32), .ref 151], (157, (upR (upR (upR (upR (upR R 151 0 (some 152)) 151 1 (some 153)) 151 4 (some 154)) 151 5 (some 155)) 151 6 (some 156)), I, L))) (b := true) rfl rfl ?_
  refine Rc.goL mt_800 0 (f2 := (53, [.ref 151, .int (60 : Int32), .int (60 : Int32)], [.ref 157, .ref 151], nw (157, (upR (upR (upR (upR (upR R 151 0 (some 152)) 151 1 (some 153)) 151 4 (some 154)) 151 5 (some 155)) 151 6 (some 156)), I, L))) (b := ((Nat.beq (K0 157) (kAT .int) && decide (¬ (10 : Int32) < 0) && Nat.beq (Int32.toNatClampNeg (10 : Int32)) (Z0 157)) && true)) rfl (by decide +kernel) ?_
  rw [(hF.mk1 (m := 158) rfl (by decide)).1]
  have hF := (hF.mk1 (m := 158) rfl (by decide)).2
  refine Rc.goL mt_800 0 (f2 := (56, [.ref 151, .int (60 : Int32), .int (60 : Int32)], [], (158, (upR (upR (upR (upR (upR (upR R 151 0 (some 152)) 151 1 (some 153)) 151 4 (some 154)) 151 5 (some 155)) 151 6 (some 156)) 151 7 (some 157)), I, L))) (b := true) rfl rfl ?_
  have hF := hF.uR (c := 151) (i := 7) (v := some 157) (by decide)
  refine Rc.goL mt_800 1 (f2 := (59, [.ref 151, .int (60 : Int32), .int (60 : Int32)], [.int (10 : Int32), .ref 151], (158, (upR (upR (upR (upR (upR (upR R 151 0 (some 152)) 151 1 (some 153)) 151 4 (some 154)) 151 5 (some 155)) 151 6 (some 156)) 151 7 (some 157)), I, L))) (b := true) rfl rfl ?_
  refine Rc.goL mt_800 0 (f2 := (61, [.ref 151, .int (60 : Int32), .int (60 : Int32)], [.ref 158, .ref 151], nw (158, (upR (upR (upR (upR (upR (upR R 151 0 (some 152)) 151 1 (some 153)) 151 4 (some 154)) 151 5 (some 155)) 151 6 (some 156)) 151 7 (some 157)), I, L))) (b := ((Nat.beq (K0 158) (kAT .int) && decide (¬ (10 : Int32) < 0) && Nat.beq (Int32.toNatClampNeg (10 : Int32)) (Z0 158)) && true)) rfl (by decide +kernel) ?_
  rw [(hF.mk1 (m := 159) rfl (by decide)).1]
  have hF := (hF.mk1 (m := 159) rfl (by decide)).2
  refine Rc.goL mt_800 0 (f2 := (64, [.ref 151, .int (60 : Int32), .int (60 : Int32)], [], (159, (upR (upR (upR (upR (upR (upR (upR R 151 0 (some 152)) 151 1 (some 153)) 151 4 (some 154)) 151 5 (some 155)) 151 6 (some 156)) 151 7 (some 157)) 151 8 (some 158)), I, L))) (b := true) rfl rfl ?_
  have hF := hF.uR (c := 151) (i := 8) (v := some 158) (by decide)
  exact Rc.ret (v := none) rfl rfl
def rn_800_159 (R : MR) : MR := (upR (upR (upR (upR (upR (upR (upR R 159 0 (some 160)) 159 1 (some 161)) 159 4 (some 162)) 159 5 (some 163)) 159 6 (some 164)) 159 7 (some 165)) 159 8 (some 166))
theorem rn_800_159_o {R : MR} {k : Nat} {x : Option Nat} (h : R 12 k = x) : rn_800_159 R 12 k = x := upR_o rfl (upR_o rfl (upR_o rfl (upR_o rfl (upR_o rfl (upR_o rfl (upR_o rfl h))))))
theorem cf_800_159 {R : MR} {I : MI} {L : ML} (hF : FM 160 R I L) : FM 167 (rn_800_159 R) I L := by
  have hF := (hF.mk1 (m := 161) rfl (by decide)).2
  have hF := hF.uR (c := 159) (i := 0) (v := some 160) (by decide)
  have hF := (hF.mk1 (m := 162) rfl (by decide)).2
  have hF := hF.uR (c := 159) (i := 1) (v := some 161) (by decide)
  have hF := (hF.mk1 (m := 163) rfl (by decide)).2
  have hF := hF.uR (c := 159) (i := 4) (v := some 162) (by decide)
  have hF := (hF.mk1 (m := 164) rfl (by decide)).2
  have hF := hF.uR (c := 159) (i := 5) (v := some 163) (by decide)
  have hF := (hF.mk1 (m := 165) rfl (by decide)).2
  have hF := hF.uR (c := 159) (i := 6) (v := some 164) (by decide)
  have hF := (hF.mk1 (m := 166) rfl (by decide)).2
  have hF := hF.uR (c := 159) (i := 7) (v := some 165) (by decide)
  have hF := (hF.mk1 (m := 167) rfl (by decide)).2
  have hF := hF.uR (c := 159) (i := 8) (v := some 166) (by decide)
  exact hF
set_option maxRecDepth 20000 in
theorem cn_800_159 {d : Nat} (hd : 1 ≤ d) {R : MR} {I : MI} {L : ML} (hF : FM 160 R I L) : Ex d 800 [.ref 159, .int (200 : Int32)] (160, R, I, L) (none, (167, rn_800_159 R, I, L)) := by
  obtain ⟨d, rfl⟩ : ∃ d0, d = d0 + 1 := ⟨d - 1, by omega⟩
  refine Ex.of okm_800 (by omega) (Nat.le_of_ble_eq_true rfl) ?_
  show Rc (d + 1) 800 (0, [.ref 159, .int (200 : Int32), UU], [], (160, R, I, L)) _
  refine Rc.goL mt_800 4 (f2 := (9, [.ref 159, .int (200 : Int32), UU], [.int ((imx (0 : Int32) (200 : Int32)))], (160, R, I, L))) (b := true) rfl rfl ?_
  rw [show imx (0 : Int32) (200 : Int32) = 200 from by decide]
  refine Rc.goL mt_800 2 (f2 := (12, [.ref 159, .int (200 : Int32), .int (200 : Int32)], [.int (200 : Int32), .ref 159], (160, R, I, L))) (b := true) rfl rfl ?_
  refine Rc.goL mt_800 0 (f2 := (14, [.ref 159, .int (200 : Int32), .int (200 : Int32)], [.ref 160, .ref 159], nw (160, R, I, L))) (b := ((Nat.beq (K0 160) (kAT .char) && decide (¬ (200 : Int32) < 0) && Nat.beq (Int32.toNatClampNeg (200 : Int32)) (Z0 160)) && true)) rfl (by decide +kernel) ?_
  rw [(hF.mk1 (m := 161) rfl (by decide)).1]
  have hF := (hF.mk1 (m := 161) rfl (by decide)).2
  refine Rc.goL mt_800 0 (f2 := (17, [.ref 159, .int (200 : Int32), .int (200 : Int32)], [], (161, (upR R 159 0 (some 160)), I, L))) (b := true) rfl rfl ?_
  have hF := hF.uR (c := 159) (i := 0) (v := some 160) (by decide)
  refine Rc.goL mt_800 1 (f2 := (19, [.ref 159, .int (200 : Int32), .int (200 : Int32)], [.int (200 : Int32), .ref 159], (161, (upR R 159 0 (some 160)), I, L))) (b := true) rfl rfl ?_
  refine Rc.goL mt_800 0 (f2 := (21, [.ref 159, .int (200 : Int32), .int (200 : Int32)], [.ref 161, .ref 159], nw (161, (upR R 159 0 (some 160)), I, L))) (b := ((Nat.beq (K0 161) (kAT .int) && decide (¬ (200 : Int32) < 0) && Nat.beq (Int32.toNatClampNeg (200 : Int32)) (Z0 161)) && true)) rfl (by decide +kernel) ?_
  rw [(hF.mk1 (m := 162) rfl (by decide)).1]
  have hF := (hF.mk1 (m := 162) rfl (by decide)).2
  refine Rc.goL mt_800 0 (f2 := (24, [.ref 159, .int (200 : Int32), .int (200 : Int32)], [], (162, (upR (upR R 159 0 (some 160)) 159 1 (some 161)), I, L))) (b := true) rfl rfl ?_
  have hF := hF.uR (c := 159) (i := 1) (v := some 161) (by decide)
  refine Rc.goL mt_800 1 (f2 := (27, [.ref 159, .int (200 : Int32), .int (200 : Int32)], [.int (10 : Int32), .ref 159], (162, (upR (upR R 159 0 (some 160)) 159 1 (some 161)), I, L))) (b := true) rfl rfl ?_
  refine Rc.goL mt_800 0 (f2 := (29, [.ref 159, .int (200 : Int32), .int (200 : Int32)], [.ref 162, .ref 159], nw (162, (upR (upR R 159 0 (some 160)) 159 1 (some 161)), I, L))) (b := ((Nat.beq (K0 162) (kAT .int) && decide (¬ (10 : Int32) < 0) && Nat.beq (Int32.toNatClampNeg (10 : Int32)) (Z0 162)) && true)) rfl (by decide +kernel) ?_
  rw [(hF.mk1 (m := 163) rfl (by decide)).1]
  have hF := (hF.mk1 (m := 163) rfl (by decide)).2
  refine Rc.goL mt_800 0 (f2 := (32, [.ref 159, .int (200 : Int32), .int (200 : Int32)], [], (163, (upR (upR (upR R 159 0 (some 160)) 159 1 (some 161)) 159 4 (some 162)), I, L))) (b := true) rfl rfl ?_
  have hF := hF.uR (c := 159) (i := 4) (v := some 162) (by decide)
  refine Rc.goL mt_800 1 (f2 := (35, [.ref 159, .int (200 : Int32), .int (200 : Int32)], [.int (10 : Int32), .ref 159], (163, (upR (upR (upR R 159 0 (some 160)) 159 1 (some 161)) 159 4 (some 162)), I, L))) (b := true) rfl rfl ?_
  refine Rc.goL mt_800 0 (f2 := (37, [.ref 159, .int (200 : Int32), .int (200 : Int32)], [.ref 163, .ref 159], nw (163, (upR (upR (upR R 159 0 (some 160)) 159 1 (some 161)) 159 4 (some 162)), I, L))) (b := ((Nat.beq (K0 163) (kAT .int) && decide (¬ (10 : Int32) < 0) && Nat.beq (Int32.toNatClampNeg (10 : Int32)) (Z0 163)) && true)) rfl (by decide +kernel) ?_
  rw [(hF.mk1 (m := 164) rfl (by decide)).1]
  have hF := (hF.mk1 (m := 164) rfl (by decide)).2
  refine Rc.goL mt_800 0 (f2 := (40, [.ref 159, .int (200 : Int32), .int (200 : Int32)], [], (164, (upR (upR (upR (upR R 159 0 (some 160)) 159 1 (some 161)) 159 4 (some 162)) 159 5 (some 163)), I, L))) (b := true) rfl rfl ?_
  have hF := hF.uR (c := 159) (i := 5) (v := some 163) (by decide)
  refine Rc.goL mt_800 1 (f2 := (43, [.ref 159, .int (200 : Int32), .int (200 : Int32)], [.int (10 : Int32), .ref 159], (164, (upR (upR (upR (upR R 159 0 (some 160)) 159 1 (some 161)) 159 4 (some 162)) 159 5 (some 163)), I, L))) (b := true) rfl rfl ?_
  refine Rc.goL mt_800 0 (f2 := (45, [.ref 159, .int (200 : Int32), .int (200 : Int32)], [.ref 164, .ref 159], nw (164, (upR (upR (upR (upR R 159 0 (some 160)) 159 1 (some 161)) 159 4 (some 162)) 159 5 (some 163)), I, L))) (b := ((Nat.beq (K0 164) (kAT .int) && decide (¬ (10 : Int32) < 0) && Nat.beq (Int32.toNatClampNeg (10 : Int32)) (Z0 164)) && true)) rfl (by decide +kernel) ?_
  rw [(hF.mk1 (m := 165) rfl (by decide)).1]
  have hF := (hF.mk1 (m := 165) rfl (by decide)).2
  refine Rc.goL mt_800 0 (f2 := (48, [.ref 159, .int (200 : Int32), .int (200 : Int32)], [], (165, (upR (upR (upR (upR (upR R 159 0 (some 160)) 159 1 (some 161)) 159 4 (some 162)) 159 5 (some 163)) 159 6 (some 164)), I, L))) (b := true) rfl rfl ?_
  have hF := hF.uR (c := 159) (i := 6) (v := some 164) (by decide)
  refine Rc.goL mt_800 1 (f2 := (51, [.ref 159, .int (200 : Int32), .int (200 : Int32)], [.int (10 : Int32), .ref 159], (165, (upR (upR (upR (upR (upR R 159 0 (some 160)) 159 1 (some 161)) 159 4 (some 162)) 159 5 (some 163)) 159 6 (some 164)), I, L))) (b := true) rfl rfl ?_
  refine Rc.goL mt_800 0 (f2 := (53, [.ref 159, .int (200 : Int32), .int (200 : Int32)], [.ref 165, .ref 159], nw (165, (upR (upR (upR (upR (upR R 159 0 (some 160)) 159 1 (some 161)) 159 4 (some 162)) 159 5 (some 163)) 159 6 (some 164)), I, L))) (b := ((Nat.beq (K0 165) (kAT .int) && decide (¬ (10 : Int32) < 0) && Nat.beq (Int32.toNatClampNeg (10 : Int32)) (Z0 165)) && true)) rfl (by decide +kernel) ?_
  rw [(hF.mk1 (m := 166) rfl (by decide)).1]
  have hF := (hF.mk1 (m := 166) rfl (by decide)).2
  refine Rc.goL mt_800 0 (f2 := (56, [.ref 159, .int (200 : Int32), .int (200 : Int32)], [], (166, (upR (upR (upR (upR (upR (upR R 159 0 (some 160)) 159 1 (some 161)) 159 4 (some 162)) 159 5 (some 163)) 159 6 (some 164)) 159 7 (some 165)), I, L))) (b := true) rfl rfl ?_
  have hF := hF.uR (c := 159) (i := 7) (v := some 165) (by decide)
  refine Rc.goL mt_800 1 (f2 := (59, [.ref 159, .int (200 : Int32), .int (200 : Int32)], [.int (10 : Int32), .ref 159], (166, (upR (upR (upR (upR (upR (upR R 159 0 (some 160)) 159 1 (some 161)) 159 4 (some 162)) 159 5 (some 163)) 159 6 (some 164)) 159 7 (some 165)), I, L))) (b := true) rfl rfl ?_
  refine Rc.goL mt_800 0 (f2 := (61, [.ref 159, .int (200 : Int32), .int (200 : Int32)], [.ref 166, .ref 159], nw (166, (upR (upR (upR (upR (upR (upR R 159 0 (some 160)) 159 1 (some 161)) 159 4 (some 162)) 159 5 (some 163)) 159 6 (some 164)) 159 7 (some 165)), I, L))) (b := ((Nat.beq (K0 166) (kAT .int) && decide (¬ (10 : Int32) < 0) && Nat.beq (Int32.toNatClampNeg (10 : Int32)) (Z0 166)) && true)) rfl (by decide +kernel) ?_
  rw [(hF.mk1 (m := 167) rfl (by decide)).1]
  have hF := (hF.mk1 (m := 167) rfl (by decide)).2
  refine Rc.goL mt_800 0 (f2 := (64, [.ref 159, .int (200 : Int32), .int (200 : Int32)], [], (167, (upR (upR (upR (upR (upR (upR (upR R 159 0 (some 160)) 159 1 (some 161)) 159 4 (some 162)) 159 5 (some 163)) 159 6 (some 164)) 159 7 (some 165)) 159 8 (some 166)), I, L))) (b := true) rfl rfl ?_
  have hF := hF.uR (c := 159) (i := 8) (v := some 166) (by decide)
  exact Rc.ret (v := none) rfl rfl
def rn_800_167 (R : MR) : MR := (upR (upR (upR (upR (upR (upR (upR R 167 0 (some 168)) 167 1 (some 169)) 167 4 (some 170)) 167 5 (some 171)) 167 6 (some 172)) 167 7 (some 173)) 167 8 (some 174))
theorem rn_800_167_o {R : MR} {k : Nat} {x : Option Nat} (h : R 12 k = x) : rn_800_167 R 12 k = x := upR_o rfl (upR_o rfl (upR_o rfl (upR_o rfl (upR_o rfl (upR_o rfl (upR_o rfl h))))))
theorem cf_800_167 {R : MR} {I : MI} {L : ML} (hF : FM 168 R I L) : FM 175 (rn_800_167 R) I L := by
  have hF := (hF.mk1 (m := 169) rfl (by decide)).2
  have hF := hF.uR (c := 167) (i := 0) (v := some 168) (by decide)
  have hF := (hF.mk1 (m := 170) rfl (by decide)).2
  have hF := hF.uR (c := 167) (i := 1) (v := some 169) (by decide)
  have hF := (hF.mk1 (m := 171) rfl (by decide)).2
  have hF := hF.uR (c := 167) (i := 4) (v := some 170) (by decide)
  have hF := (hF.mk1 (m := 172) rfl (by decide)).2
  have hF := hF.uR (c := 167) (i := 5) (v := some 171) (by decide)
  have hF := (hF.mk1 (m := 173) rfl (by decide)).2
  have hF := hF.uR (c := 167) (i := 6) (v := some 172) (by decide)
  have hF := (hF.mk1 (m := 174) rfl (by decide)).2
  have hF := hF.uR (c := 167) (i := 7) (v := some 173) (by decide)
  have hF := (hF.mk1 (m := 175) rfl (by decide)).2
  have hF := hF.uR (c := 167) (i := 8) (v := some 174) (by decide)
  exact hF
set_option maxRecDepth 20000 in
theorem cn_800_167 {d : Nat} (hd : 1 ≤ d) {R : MR} {I : MI} {L : ML} (hF : FM 168 R I L) : Ex d 800 [.ref 167, .int (60 : Int32)] (168, R, I, L) (none, (175, rn_800_167 R, I, L)) := by
  obtain ⟨d, rfl⟩ : ∃ d0, d = d0 + 1 := ⟨d - 1, by omega⟩
  refine Ex.of okm_800 (by omega) (Nat.le_of_ble_eq_true rfl) ?_
  show Rc (d + 1) 800 (0, [.ref 167, .int (60 : Int32), UU], [], (168, R, I, L)) _
  refine Rc.goL mt_800 4 (f2 := (9, [.ref 167, .int (60 : Int32), UU], [.int ((imx (0 : Int32) (60 : Int32)))], (168, R, I, L))) (b := true) rfl rfl ?_
  rw [show imx (0 : Int32) (60 : Int32) = 60 from by decide]
  refine Rc.goL mt_800 2 (f2 := (12, [.ref 167, .int (60 : Int32), .int (60 : Int32)], [.int (60 : Int32), .ref 167], (168, R, I, L))) (b := true) rfl rfl ?_
  refine Rc.goL mt_800 0 (f2 := (14, [.ref 167, .int (60 : Int32), .int (60 : Int32)], [.ref 168, .ref 167], nw (168, R, I, L))) (b := ((Nat.beq (K0 168) (kAT .char) && decide (¬ (60 : Int32) < 0) && Nat.beq (Int32.toNatClampNeg (60 : Int32)) (Z0 168)) && true)) rfl (by decide +kernel) ?_
  rw [(hF.mk1 (m := 169) rfl (by decide)).1]
  have hF := (hF.mk1 (m := 169) rfl (by decide)).2
  refine Rc.goL mt_800 0 (f2 := (17, [.ref 167, .int (60 : Int32), .int (60 : Int32)], [], (169, (upR R 167 0 (some 168)), I, L))) (b := true) rfl rfl ?_
  have hF := hF.uR (c := 167) (i := 0) (v := some 168) (by decide)
  refine Rc.goL mt_800 1 (f2 := (19, [.ref 167, .int (60 : Int32), .int (60 : Int32)], [.int (60 : Int32), .ref 167], (169, (upR R 167 0 (some 168)), I, L))) (b := true) rfl rfl ?_
  refine Rc.goL mt_800 0 (f2 := (21, [.ref 167, .int (60 : Int32), .int (60 : Int32)], [.ref 169, .ref 167], nw (169, (upR R 167 0 (some 168)), I, L))) (b := ((Nat.beq (K0 169) (kAT .int) && decide (¬ (60 : Int32) < 0) && Nat.beq (Int32.toNatClampNeg (60 : Int32)) (Z0 169)) && true)) rfl (by decide +kernel) ?_
  rw [(hF.mk1 (m := 170) rfl (by decide)).1]
  have hF := (hF.mk1 (m := 170) rfl (by decide)).2
  refine Rc.goL mt_800 0 (f2 := (24, [.ref 167, .int (60 : Int32), .int (60 : Int32)], [], (170, (upR (upR R 167 0 (some 168)) 167 1 (some 169)), I, L))) (b := true) rfl rfl ?_
  have hF := hF.uR (c := 167) (i := 1) (v := some 169) (by decide)
  refine Rc.goL mt_800 1 (f2 := (27, [.ref 167, .int (60 : Int32), .int (60 : Int32)], [.int (10 : Int32), .ref 167], (170, (upR (upR R 167 0 (some 168)) 167 1 (some 169)), I, L))) (b := true) rfl rfl ?_
  refine Rc.goL mt_800 0 (f2 := (29, [.ref 167, .int (60 : Int32), .int (60 : Int32)], [.ref 170, .ref 167], nw (170, (upR (upR R 167 0 (some 168)) 167 1 (some 169)), I, L))) (b := ((Nat.beq (K0 170) (kAT .int) && decide (¬ (10 : Int32) < 0) && Nat.beq (Int32.toNatClampNeg (10 : Int32)) (Z0 170)) && true)) rfl (by decide +kernel) ?_
  rw [(hF.mk1 (m := 171) rfl (by decide)).1]
  have hF := (hF.mk1 (m := 171) rfl (by decide)).2
  refine Rc.goL mt_800 0 (f2 := (32, [.ref 167, .int (60 : Int32), .int (60 : Int32)], [], (171, (upR (upR (upR R 167 0 (some 168)) 167 1 (some 169)) 167 4 (some 170)), I, L))) (b := true) rfl rfl ?_
  have hF := hF.uR (c := 167) (i := 4) (v := some 170) (by decide)
  refine Rc.goL mt_800 1 (f2 := (35, [.ref 167, .int (60 : Int32), .int (60 : Int32)], [.int (10 : Int32), .ref 167], (171, (upR (upR (upR R 167 0 (some 168)) 167 1 (some 169)) 167 4 (some 170)), I, L))) (b := true) rfl rfl ?_
  refine Rc.goL mt_800 0 (f2 := (37, [.ref 167, .int (60 : Int32), .int (60 : Int32)], [.ref 171, .ref 167], nw (171, (upR (upR (upR R 167 0 (some 168)) 167 1 (some 169)) 167 4 (some 170)), I, L))) (b := ((Nat.beq (K0 171) (kAT .int) && decide (¬ (10 : Int32) < 0) && Nat.beq (Int32.toNatClampNeg (10 : Int32)) (Z0 171)) && true)) rfl (by decide +kernel) ?_
  rw [(hF.mk1 (m := 172) rfl (by decide)).1]
  have hF := (hF.mk1 (m := 172) rfl (by decide)).2
  refine Rc.goL mt_800 0 (f2 := (40, [.ref 167, .int (60 : Int32), .int (60 : Int32)], [], (172, (upR (upR (upR (upR R 167 0 (some 168)) 167 1 (some 169)) 167 4 (some 170)) 167 5 (some 171)), I, L))) (b := true) rfl rfl ?_
  have hF := hF.uR (c := 167) (i := 5) (v := some 171) (by decide)
  refine Rc.goL mt_800 1 (f2 := (43, [.ref 167, .int (60 : Int32), .int (60 : Int32)], [.int (10 : Int32), .ref 167], (172, (upR (upR (upR (upR R 167 0 (some 168)) 167 1 (some 169)) 167 4 (some 170)) 167 5 (some 171)), I, L))) (b := true) rfl rfl ?_
  refine Rc.goL mt_800 0 (f2 := (45, [.ref 167, .int (60 : Int32), .int (60 : Int32)], [.ref 172, .ref 167], nw (172, (upR (upR (upR (upR R 167 0 (some 168)) 167 1 (some 169)) 167 4 (some 170)) 167 5 (some 171)), I, L))) (b := ((Nat.beq (K0 172) (kAT .int) && decide (¬ (10 : Int32) < 0) && Nat.beq (Int32.toNatClampNeg (10 : Int32)) (Z0 172)) && true)) rfl (by decide +kernel) ?_
  rw [(hF.mk1 (m := 173) rfl (by decide)).1]
  have hF := (hF.mk1 (m := 173) rfl (by decide)).2
  refine Rc.goL mt_800 0 (f2 := (48, [.ref 167, .int (60 : Int32), .int (60 : Int32)], [], (173, (upR (upR (upR (upR (upR R 167 0 (some 168)) 167 1 (some 169)) 167 4 (some 170)) 167 5 (some 171)) 167 6 (some 172)), I, L))) (b := true) rfl rfl ?_
  have hF := hF.uR (c := 167) (i := 6) (v := some 172) (by decide)
  refine Rc.goL mt_800 1 (f2 := (51, [.ref 167, .int (60 : Int32), .int (60 : Int32)], [.int (10 : Int32), .ref 167], (173, (upR (upR (upR (upR (upR R 167 0 (some 168)) 167 1 (some 169)) 167 4 (some 170)) 167 5 (some 171)) 167 6 (some 172)), I, L))) (b := true) rfl rfl ?_
  refine Rc.goL mt_800 0 (f2 := (53, [.ref 167, .int (60 : Int32), .int (60 : Int32)], [.ref 173, .ref 167], nw (173, (upR (upR (upR (upR (upR R 167 0 (some 168)) 167 1 (some 169)) 167 4 (some 170)) 167 5 (some 171)) 167 6 (some 172)), I, L))) (b := ((Nat.beq (K0 173) (kAT .int) && decide (¬ (10 : Int32) < 0) && Nat.beq (Int32.toNatClampNeg (10 : Int32)) (Z0 173)) && true)) rfl (by decide +kernel) ?_
  rw [(hF.mk1 (m := 174) rfl (by decide)).1]
  have hF := (hF.mk1 (m := 174) rfl (by decide)).2
  refine Rc.goL mt_800 0 (f2 := (56, [.ref 167, .int (60 : Int32), .int (60 : Int32)], [], (174, (upR (upR (upR (upR (upR (upR R 167 0 (some 168)) 167 1 (some 169)) 167 4 (some 170)) 167 5 (some 171)) 167 6 (some 172)) 167 7 (some 173)), I, L))) (b := true) rfl rfl ?_
  have hF := hF.uR (c := 167) (i := 7) (v := some 173) (by decide)
  refine Rc.goL mt_800 1 (f2 := (59, [.ref 167, .int (60 : Int32), .int (60 : Int32)], [.int (10 : Int32), .ref 167], (174, (upR (upR (upR (upR (upR (upR R 167 0 (some 168)) 167 1 (some 169)) 167 4 (some 170)) 167 5 (some 171)) 167 6 (some 172)) 167 7 (some 173)), I, L))) (b := true) rfl rfl ?_
  refine Rc.goL mt_800 0 (f2 := (61, [.ref 167, .int (60 : Int32), .int (60 : Int32)], [.ref 174, .ref 167], nw (174, (upR (upR (upR (upR (upR (upR R 167 0 (some 168)) 167 1 (some 169)) 167 4 (some 170)) 167 5 (some 171)) 167 6 (some 172)) 167 7 (some 173)), I, L))) (b := ((Nat.beq (K0 174) (kAT .int) && decide (¬ (10 : Int32) < 0) && Nat.beq (Int32.toNatClampNeg (10 : Int32)) (Z0 174)) && true)) rfl (by decide +kernel) ?_
  rw [(hF.mk1 (m := 175) rfl (by decide)).1]
  have hF := (hF.mk1 (m := 175) rfl (by decide)).2
  refine Rc.goL mt_800 0 (f2 := (64, [.ref 167, .int (60 : Int32), .int (60 : Int32)], [], (175, (upR (upR (upR (upR (upR (upR (upR R 167 0 (some 168)) 167 1 (some 169)) 167 4 (some 170)) 167 5 (some 171)) 167 6 (some 172)) 167 7 (some 173)) 167 8 (some 174)), I, L))) (b := true) rfl rfl ?_
  have hF := hF.uR (c := 167) (i := 8) (v := some 174) (by decide)
  exact Rc.ret (v := none) rfl rfl
