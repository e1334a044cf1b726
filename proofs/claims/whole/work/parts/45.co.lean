theorem mt_900 : MT 900 K_900 LN_9 := ⟨rfl, rfl, by decide +kernel⟩
theorem okm_900 : OKm 900 := ⟨⟨vE_900, okL_9, by decide +kernel⟩, by decide +kernel, by decide +kernel, by decide +kernel⟩
def rn_900 (R : MR) : MR := (upR R 1 0 (some 2))
def in_900 (I : MI) : MI := (upI I 1 1 (0 : Int32))
theorem cf_900 {R : MR} {I : MI} {L : ML} (hF : FM 2 R I L) : FM 3 (rn_900 R) (in_900 I) L := by
  have hF := (hF.mk1 (m := 3) rfl (by decide)).2
  have hF := hF.uR (c := 1) (i := 0) (v := some 2) (by decide)
  have hF := hF.uI (c := 1) (i := 1) (v := (0 : Int32)) (by decide)
  exact hF
set_option maxRecDepth 20000 in
theorem cn_900 {d : Nat} (hd : 1 ≤ d) {R : MR} {I : MI} {L : ML} (hF : FM 2 R I L) : Ex d 900 [.ref 1] (2, R, I, L) (none, (3, rn_900 R, (in_900 I), L)) := by
  obtain ⟨d, rfl⟩ : ∃ d0, d = d0 + 1 := ⟨d - 1, by omega⟩
  refine Ex.of okm_900 (by omega) (Nat.le_of_ble_eq_true rfl) ?_
  show Rc (d + 1) 900 (0, [.ref 1], [], (2, R, I, L)) _
  refine Rc.goL mt_900 3 (f2 := (8, [.ref 1], [.int (200 : Int32), .ref 1], (2, R, I, L))) (b := true) rfl rfl ?_
  refine Rc.goL mt_900 0 (f2 := (10, [.ref 1], [.ref 2, .ref 1], nw (2, R, I, L))) (b := ((Nat.beq (K0 2) (kAT .byte) && decide (¬ (200 : Int32) < 0) && Nat.beq (Int32.toNatClampNeg (200 : Int32)) (Z0 2)) && true)) rfl (by decide +kernel) ?_
  rw [(hF.mk1 (m := 3) rfl (by decide)).1]
  have hF := (hF.mk1 (m := 3) rfl (by decide)).2
  refine Rc.goL mt_900 0 (f2 := (13, [.ref 1], [], (3, (upR R 1 0 (some 2)), I, L))) (b := true) rfl rfl ?_
  have hF := hF.uR (c := 1) (i := 0) (v := some 2) (by decide)
  refine Rc.goL mt_900 2 (f2 := (18, [.ref 1], [], (3, (upR R 1 0 (some 2)), (upI I 1 1 (0 : Int32)), L))) (b := true) rfl rfl ?_
  have hF := hF.uI (c := 1) (i := 1) (v := (0 : Int32)) (by decide)
  exact Rc.ret (v := none) rfl rfl
theorem mt_700 : MT 700 K_700 LN_7 := ⟨rfl, rfl, by decide +kernel⟩
theorem okm_700 : OKm 700 := ⟨⟨vE_700, okL_7, by decide +kernel⟩, by decide +kernel, by decide +kernel, by decide +kernel⟩
def rn_700 (R : MR) : MR := (rn_800_4 (upR R 3 0 (some 1)))
def in_700 (I : MI) : MI := (upI I 3 1 (Int32.ofNat 4))
theorem cf_700 {R : MR} {I : MI} {L : ML} (hF : FM 4 R I L) : FM 12 (rn_700 R) (in_700 I) L := by
  have hF := hF.uR (c := 3) (i := 0) (v := some 1) (by decide)
  have hF := (hF.mk1 (m := 5) rfl (by decide)).2
  have hF := cf_800_4 hF
  have hF := hF.uI (c := 3) (i := 1) (v := Int32.ofNat 4) (by decide)
  exact hF
set_option maxRecDepth 20000 in
theorem cn_700 {d : Nat} (hd : 2 ≤ d) {R : MR} {I : MI} {L : ML} (hF : FM 4 R I L) : Ex d 700 [.ref 3, .ref 1] (4, R, I, L) (none, (12, rn_700 R, (in_700 I), L)) := by
  obtain ⟨d, rfl⟩ : ∃ d0, d = d0 + 1 := ⟨d - 1, by omega⟩
  refine Ex.of okm_700 (by omega) (Nat.le_of_ble_eq_true rfl) ?_
  show Rc (d + 1) 700 (0, [.ref 3, .ref 1], [], (4, R, I, L)) _
  refine Rc.goL mt_700 4 (f2 := (9, [.ref 3, .ref 1], [], (4, (upR R 3 0 (some 1)), I, L))) (b := true) rfl rfl ?_
  have hF := hF.uR (c := 3) (i := 0) (v := some 1) (by decide)
  refine Rc.goL mt_700 0 (f2 := (10, [.ref 3, .ref 1], [.ref 3], (4, (upR R 3 0 (some 1)), I, L))) (b := true) rfl rfl ?_
  refine Rc.goL mt_700 0 (f2 := (13, [.ref 3, .ref 1], [.ref 4, .ref 3], nw (4, (upR R 3 0 (some 1)), I, L))) (b := ((Nat.beq (7 : Nat) 7 && Nat.beq (K0 4) 8 && Nat.beq (Z0 4) (nf 8)) && true)) rfl (by decide +kernel) ?_
  rw [(hF.mk1 (m := 5) rfl (by decide)).1]
  have hF := (hF.mk1 (m := 5) rfl (by decide)).2
  refine Rc.goL mt_700 1 (f2 := (15, [.ref 3, .ref 1], [.int (0 : Int32), .ref 4, .ref 4, .ref 3], (5, (upR R 3 0 (some 1)), I, L))) (b := true) rfl rfl ?_
  refine Rc.callI (i := 17) (mid' := 800) (av := [.int (0 : Int32)]) (rest := [.ref 4, .ref 3]) (v := none) (M1 := (12, (rn_800_4 (upR R 3 0 (some 1))), I, L)) (a := 4) rfl rfl rfl cw_800 rfl rfl (Nat.le_of_ble_eq_true rfl) (cn_800_4 (by omega) hF) ?_
  have hF := cf_800_4 hF
  refine Rc.goL mt_700 0 (f2 := (21, [.ref 3, .ref 1], [], (12, (rn_800_4 (upR R 3 0 (some 1))), (upI I 3 1 (Int32.ofNat 4)), L))) (b := true) rfl rfl ?_
  have hF := hF.uI (c := 3) (i := 1) (v := Int32.ofNat 4) (by decide)
  exact Rc.ret (v := none) rfl rfl
theorem mt_600 : MT 600 K_600 LN_6 := ⟨rfl, rfl, by decide +kernel⟩
theorem okm_600 : OKm 600 := ⟨⟨vE_600, okL_6, by decide +kernel⟩, by decide +kernel, by decide +kernel, by decide +kernel⟩
def rn_600 (R : MR) : MR := (upR (upR (upR (upR (upR (rn_800_167 (upR (rn_800_159 (upR (rn_800_151 (upR (rn_800_143 (upR (rn_800_135 (upR (rn_800_127 (upR (rn_800_119 (upR (rn_800_111 (upR (rn_800_103 (upR (rn_800_95 (upR (rn_800_87 (upR (rn_800_79 (upR (rn_800_71 (upR (rn_800_63 (upR (rn_800_55 (upR (rn_800_47 (upR (rn_800_39 (upR (rn_800_31 (upR (rn_800_23 (upR (rn_800_15 (upR (upR R 12 0 (some 13)) 12 1 (some 14))) 13 0 (some 15))) 14 0 (some 23))) 13 1 (some 31))) 14 1 (some 39))) 13 2 (some 47))) 14 2 (some 55))) 13 3 (some 63))) 14 3 (some 71))) 13 4 (some 79))) 14 4 (some 87))) 13 5 (some 95))) 14 5 (some 103))) 13 6 (some 111))) 14 6 (some 119))) 13 7 (some 127))) 14 7 (some 135))) 13 8 (some 143))) 14 8 (some 151))) 13 9 (some 159))) 14 9 (some 167)) 12 4 (some 175)) 12 5 (some 176)) 12 6 (some 177)) 12 7 (some 178))
theorem cf_600 {R : MR} {I : MI} {L : ML} (hF : FM 13 R I L) : FM 179 (rn_600 R) I L := by
  have hF := (hF.mk1 (m := 14) rfl (by decide)).2
  have hF := hF.uR (c := 12) (i := 0) (v := some 13) (by decide)
  have hF := (hF.mk1 (m := 15) rfl (by decide)).2
  have hF := hF.uR (c := 12) (i := 1) (v := some 14) (by decide)
  have hF := (hF.mk1 (m := 16) rfl (by decide)).2
  have hF := cf_800_15 hF
  have hF := hF.uR (c := 13) (i := 0) (v := some 15) (by decide)
  have hF := (hF.mk1 (m := 24) rfl (by decide)).2
  have hF := cf_800_23 hF
  have hF := hF.uR (c := 14) (i := 0) (v := some 23) (by decide)
  have hF := (hF.mk1 (m := 32) rfl (by decide)).2
  have hF := cf_800_31 hF
  have hF := hF.uR (c := 13) (i := 1) (v := some 31) (by decide)
  have hF := (hF.mk1 (m := 40) rfl (by decide)).2
  have hF := cf_800_39 hF
  have hF := hF.uR (c := 14) (i := 1) (v := some 39) (by decide)
  have hF := (hF.mk1 (m := 48) rfl (by decide)).2
  have hF := cf_800_47 hF
  have hF := hF.uR (c := 13) (i := 2) (v := some 47) (by decide)
  have hF := (hF.mk1 (m := 56) rfl (by decide)).2
  have hF := cf_800_55 hF
  have hF := hF.uR (c := 14) (i := 2) (v := some 55) (by decide)
  have hF := (hF.mk1 (m := 64) rfl (by decide)).2
  have hF := cf_800_63 hF
  have hF := hF.uR (c := 13) (i := 3) (v := some 63) (by decide)
  have hF := (hF.mk1 (m := 72) rfl (by decide)).2
  have hF := cf_800_71 hF
  have hF := hF.uR (c := 14) (i := 3) (v := some 71) (by decide)
  have hF := (hF.mk1 (m := 80) rfl (by decide)).2
  have hF := cf_800_79 hF
  have hF := hF.uR (c := 13) (i := 4) (v := some 79) (by decide)
  have hF := (hF.mk1 (m := 88) rfl (by decide)).2
  have hF := cf_800_87 hF
  have hF := hF.uR (c := 14) (i := 4) (v := some 87) (by decide)
  have hF := (hF.mk1 (m := 96) rfl (by decide)).2
  have hF := cf_800_95 hF
  have hF := hF.uR (c := 13) (i := 5) (v := some 95) (by decide)
  have hF := (hF.mk1 (m := 104) rfl (by decide)).2
  have hF := cf_800_103 hF
  have hF := hF.uR (c := 14) (i := 5) (v := some 103) (by decide)
  have hF := (hF.mk1 (m := 112) rfl (by decide)).2
  have hF := cf_800_111 hF
  have hF := hF.uR (c := 13) (i := 6) (v := some 111) (by decide)
  have hF := (hF.mk1 (m := 120) rfl (by decide)).2
  have hF := cf_800_119 hF
  have hF := hF.uR (c := 14) (i := 6) (v := some 119) (by decide)
  have hF := (hF.mk1 (m := 128) rfl (by decide)).2
  have hF := cf_800_127 hF
  have hF := hF.uR (c := 13) (i := 7) (v := some 127) (by decide)
  have hF := (hF.mk1 (m := 136) rfl (by decide)).2
  have hF := cf_800_135 hF
  have hF := hF.uR (c := 14) (i := 7) (v := some 135) (by decide)
  have hF := (hF.mk1 (m := 144) rfl (by decide)).2
  have hF := cf_800_143 hF
  have hF := hF.uR (c := 13) (i := 8) (v := some 143) (by decide)
  have hF := (hF.mk1 (m := 152) rfl (by decide)).2
  have hF := cf_800_151 hF
  have hF := hF.uR (c := 14) (i := 8) (v := some 151) (by decide)
  have hF := (hF.mk1 (m := 160) rfl (by decide)).2
  have hF := cf_800_159 hF
  have hF := hF.uR (c := 13) (i := 9) (v := some 159) (by decide)
  have hF := (hF.mk1 (m := 168) rfl (by decide)).2
  have hF := cf_800_167 hF
  have hF := hF.uR (c := 14) (i := 9) (v := some 167) (by decide)
  have hF := (hF.mk1 (m := 176) rfl (by decide)).2
  have hF := hF.uR (c := 12) (i := 4) (v := some 175) (by decide)
  have hF := (hF.mk1 (m := 177) rfl (by decide)).2
  have hF := hF.uR (c := 12) (i := 5) (v := some 176) (by decide)
  have hF := (hF.mk1 (m := 178) rfl (by decide)).2
  have hF := hF.uR (c := 12) (i := 6) (v := some 177) (by decide)
  have hF := (hF.mk1 (m := 179) rfl (by decide)).2
  have hF := hF.uR (c := 12) (i := 7) (v := some 178) (by decide)
  exact hF
set_option maxRecDepth 20000 in
theorem cn_600 {d : Nat} (hd : 2 ≤ d) {R : MR} {I : MI} {L : ML} (hF : FM 13 R I L) : Ex d 600 [.ref 12] (13, R, I, L) (none, (179, rn_600 R, I, L)) := by
  obtain ⟨d, rfl⟩ : ∃ d0, d = d0 + 1 := ⟨d - 1, by omega⟩
  refine Ex.of okm_600 (by omega) (Nat.le_of_ble_eq_true rfl) ?_
  show Rc (d + 1) 600 (0, [.ref 12, UU], [], (13, R, I, L)) _
  refine Rc.goL mt_600 3 (f2 := (7, [.ref 12, UU], [.int (10 : Int32), .ref 12], (13, R, I, L))) (b := true) rfl rfl ?_
  refine Rc.goL mt_600 0 (f2 := (10, [.ref 12, UU], [.ref 13, .ref 12], nw (13, R, I, L))) (b := ((Nat.beq (K0 13) 25 && decide (¬ (10 : Int32) < 0) && Nat.beq (Int32.toNatClampNeg (10 : Int32)) (Z0 13)) && true)) rfl (by decide +kernel) ?_
  rw [(hF.mk1 (m := 14) rfl (by decide)).1]
  have hF := (hF.mk1 (m := 14) rfl (by decide)).2
  refine Rc.goL mt_600 0 (f2 := (13, [.ref 12, UU], [], (14, (upR R 12 0 (some 13)), I, L))) (b := true) rfl rfl ?_
  have hF := hF.uR (c := 12) (i := 0) (v := some 13) (by decide)
  have g0 : (upR R 12 0 (some 13)) 12 0 = some 13 := rfl
  refine Rc.goL mt_600 1 (f2 := (16, [.ref 12, UU], [.int (10 : Int32), .ref 12], (14, (upR R 12 0 (some 13)), I, L))) (b := true) rfl rfl ?_
  refine Rc.goL mt_600 0 (f2 := (19, [.ref 12, UU], [.ref 14, .ref 12], nw (14, (upR R 12 0 (some 13)), I, L))) (b := ((Nat.beq (K0 14) 25 && decide (¬ (10 : Int32) < 0) && Nat.beq (Int32.toNatClampNeg (10 : Int32)) (Z0 14)) && true)) rfl (by decide +kernel) ?_
  rw [(hF.mk1 (m := 15) rfl (by decide)).1]
  have hF := (hF.mk1 (m := 15) rfl (by decide)).2
  refine Rc.goL mt_600 0 (f2 := (22, [.ref 12, UU], [], (15, (upR (upR R 12 0 (some 13)) 12 1 (some 14)), I, L))) (b := true) rfl rfl ?_
  have hF := hF.uR (c := 12) (i := 1) (v := some 14) (by decide)
  have g1 : (upR (upR R 12 0 (some 13)) 12 1 (some 14)) 12 1 = some 14 := rfl
  have g0 := upR_o (c := 12) (i := 1) (v := some 14) rfl g0
  refine Rc.goL mt_600 4 (f2 := ((if (0 : Int32) < (10 : Int32) then 30 else 67), [.ref 12, .int (0 : Int32)], [], (15, (upR (upR R 12 0 (some 13)) 12 1 (some 14)), I, L))) (b := true) rfl rfl ?_
  rw [if_pos (by decide)]
  refine Rc.goL mt_600 1 (f2 := (34, [.ref 12, .int (0 : Int32)], [(rv ((upR (upR R 12 0 (some 13)) 12 1 (some 14)) 12 0))], (15, (upR (upR R 12 0 (some 13)) 12 1 (some 14)), I, L))) (b := true) rfl rfl ?_
  rw [g0]
  show Rc (d + 1) 600 (34, [.ref 12, .int (0 : Int32)], [.ref 13], (15, (upR (upR R 12 0 (some 13)) 12 1 (some 14)), I, L)) _
  refine Rc.goL mt_600 0 (f2 := (35, [.ref 12, .int (0 : Int32)], [.int (0 : Int32), .ref 13], (15, (upR (upR R 12 0 (some 13)) 12 1 (some 14)), I, L))) (b := true) rfl rfl ?_
  refine Rc.goL mt_600 0 (f2 := (38, [.ref 12, .int (0 : Int32)], [.ref 15, .int (0 : Int32), .ref 13], nw (15, (upR (upR R 12 0 (some 13)) 12 1 (some 14)), I, L))) (b := ((Nat.beq (7 : Nat) 7 && Nat.beq (K0 15) 8 && Nat.beq (Z0 15) (nf 8)) && true)) rfl (by decide +kernel) ?_
  rw [(hF.mk1 (m := 16) rfl (by decide)).1]
  have hF := (hF.mk1 (m := 16) rfl (by decide)).2
  refine Rc.goL mt_600 1 (f2 := (42, [.ref 12, .int (0 : Int32)], [.int (200 : Int32), .ref 15, .ref 15, .int (0 : Int32), .ref 13], (16, (upR (upR R 12 0 (some 13)) 12 1 (some 14)), I, L))) (b := true) rfl rfl ?_
  refine Rc.callI (i := 18) (mid' := 800) (av := [.int (200 : Int32)]) (rest := [.ref 15, .int (0 : Int32), .ref 13]) (v := none) (M1 := (23, (rn_800_15 (upR (upR R 12 0 (some 13)) 12 1 (some 14))), I, L)) (a := 15) rfl rfl rfl cw_800 rfl rfl (Nat.le_of_ble_eq_true rfl) (cn_800_15 (by omega) hF) ?_
  have hF := cf_800_15 hF
  have g0 := rn_800_15_o g0
  have g1 := rn_800_15_o g1
  refine Rc.goL mt_600 0 (f2 := (46, [.ref 12, .int (0 : Int32)], [], (23, (upR (rn_800_15 (upR (upR R 12 0 (some 13)) 12 1 (some 14))) 13 0 (some 15)), I, L))) (b := true) rfl rfl ?_
  have hF := hF.uR (c := 13) (i := 0) (v := some 15) (by decide)
  have g0 := upR_o (c := 13) (i := 0) (v := some 15) rfl g0
  have g1 := upR_o (c := 13) (i := 0) (v := some 15) rfl g1
  refine Rc.goL mt_600 1 (f2 := (50, [.ref 12, .int (0 : Int32)], [(rv ((upR (rn_800_15 (upR (upR R 12 0 (some 13)) 12 1 (some 14))) 13 0 (some 15)) 12 1))], (23, (upR (rn_800_15 (upR (upR R 12 0 (some 13)) 12 1 (some 14))) 13 0 (some 15)), I, L))) (b := true) rfl rfl ?_
  rw [g1]
  show Rc (d + 1) 600 (50, [.ref 12, .int (0 : Int32)], [.ref 14], (23, (upR (rn_800_15 (upR (upR R 12 0 (some 13)) 12 1 (some 14))) 13 0 (some 15)), I, L)) _
  refine Rc.goL mt_600 0 (f2 := (51, [.ref 12, .int (0 : Int32)], [.int (0 : Int32), .ref 14], (23, (upR (rn_800_15 (upR (upR R 12 0 (some 13)) 12 1 (some 14))) 13 0 (some 15)), I, L))) (b := true) rfl rfl ?_
  refine Rc.goL mt_600 0 (f2 := (54, [.ref 12, .int (0 : Int32)], [.ref 23, .int (0 : Int32), .ref 14], nw (23, (upR (rn_800_15 (upR (upR R 12 0 (some 13)) 12 1 (some 14))) 13 0 (some 15)), I, L))) (b := ((Nat.beq (7 : Nat) 7 && Nat.beq (K0 23) 8 && Nat.beq (Z0 23) (nf 8)) && true)) rfl (by decide +kernel) ?_
  rw [(hF.mk1 (m := 24) rfl (by decide)).1]
  have hF := (hF.mk1 (m := 24) rfl (by decide)).2
  refine Rc.goL mt_600 1 (f2 := (57, [.ref 12, .int (0 : Int32)], [.int (60 : Int32), .ref 23, .ref 23, .int (0 : Int32), .ref 14], (24, (upR (rn_800_15 (upR (upR R 12 0 (some 13)) 12 1 (some 14))) 13 0 (some 15)), I, L))) (b := true) rfl rfl ?_
  refine Rc.callI (i := 18) (mid' := 800) (av := [.int (60 : Int32)]) (rest := [.ref 23, .int (0 : Int32), .ref 14]) (v := none) (M1 := (31, (rn_800_23 (upR (rn_800_15 (upR (upR R 12 0 (some 13)) 12 1 (some 14))) 13 0 (some 15))), I, L)) (a := 23) rfl rfl rfl cw_800 rfl rfl (Nat.le_of_ble_eq_true rfl) (cn_800_23 (by omega) hF) ?_
  have hF := cf_800_23 hF
  have g0 := rn_800_23_o g0
  have g1 := rn_800_23_o g1
  refine Rc.goL mt_600 0 (f2 := (61, [.ref 12, .int (0 : Int32)], [], (31, (upR (rn_800_23 (upR (rn_800_15 (upR (upR R 12 0 (some 13)) 12 1 (some 14))) 13 0 (some 15))) 14 0 (some 23)), I, L))) (b := true) rfl rfl ?_
  have hF := hF.uR (c := 14) (i := 0) (v := some 23) (by decide)
  have g0 := upR_o (c := 14) (i := 0) (v := some 23) rfl g0
  have g1 := upR_o (c := 14) (i := 0) (v := some 23) rfl g1
  refine Rc.goL mt_600 0 (f2 := (64, [.ref 12, .int ((0 : Int32) + 1)], [], (31, (upR (rn_800_23 (upR (rn_800_15 (upR (upR R 12 0 (some 13)) 12 1 (some 14))) 13 0 (some 15))) 14 0 (some 23)), I, L))) (b := true) rfl rfl ?_
  rw [show (0 : Int32) + 1 = 1 from by decide]
  refine Rc.goL mt_600 0 (f2 := (24, [.ref 12, .int (1 : Int32)], [], (31, (upR (rn_800_23 (upR (rn_800_15 (upR (upR R 12 0 (some 13)) 12 1 (some 14))) 13 0 (some 15))) 14 0 (some 23)), I, L))) (b := true) rfl rfl ?_
  refine Rc.goL mt_600 2 (f2 := ((if (1 : Int32) < (10 : Int32) then 30 else 67), [.ref 12, .int (1 : Int32)], [], (31, (upR (rn_800_23 (upR (rn_800_15 (upR (upR R 12 0 (some 13)) 12 1 (some 14))) 13 0 (some 15))) 14 0 (some 23)), I, L))) (b := true) rfl rfl ?_
  rw [if_pos (by decide)]
  refine Rc.goL mt_600 1 (f2 := (34, [.ref 12, .int (1 : Int32)], [(rv ((upR (rn_800_23 (upR (rn_800_15 (upR (upR R 12 0 (some 13)) 12 1 (some 14))) 13 0 (some 15))) 14 0 (some 23)) 12 0))], (31, (upR (rn_800_23 (upR (rn_800_15 (upR (upR R 12 0 (some 13)) 12 1 (some 14))) 13 0 (some 15))) 14 0 (some 23)), I, L))) (b := true) rfl rfl ?_
  rw [g0]
  show Rc (d + 1) 600 (34, [.ref 12, .int (1 : Int32)], [.ref 13], (31, (upR (rn_800_23 (upR (rn_800_15 (upR (upR R 12 0 (some 13)) 12 1 (some 14))) 13 0 (some 15))) 14 0 (some 23)), I, L)) _
  refine Rc.goL mt_600 0 (f2 := (35, [.ref 12, .int (1 : Int32)], [.int (1 : Int32), .ref 13], (31, (upR (rn_800_23 (upR (rn_800_15 (upR (upR R 12 0 (some 13)) 12 1 (some 14))) 13 0 (some 15))) 14 0 (some 23)), I, L))) (b := true) rfl rfl ?_
  refine Rc.goL mt_600 0 (f2 := (38, [.ref 12, .int (1 : Int32)], [.ref 31, .int (1 : Int32), .ref 13], nw (31, (upR (rn_800_23 (upR (rn_800_15 (upR (upR R 12 0 (some 13)) 12 1 (some 14))) 13 0 (some 15))) 14 0 (some 23)), I, L))) (b := ((Nat.beq (7 : Nat) 7 && Nat.beq (K0 31) 8 && Nat.beq (Z0 31) (nf 8)) && true)) rfl (by decide +kernel) ?_
  rw [(hF.mk1 (m := 32) rfl (by decide)).1]
  have hF := (hF.mk1 (m := 32) rfl (by decide)).2
  refine Rc.goL mt_600 1 (f2 := (42, [.ref 12, .int (1 : Int32)], [.int (200 : Int32), .ref 31, .ref 31, .int (1 : Int32), .ref 13], (32, (upR (rn_800_23 (upR (rn_800_15 (upR (upR R 12 0 (some 13)) 12 1 (some 14))) 13 0 (some 15))) 14 0 (some 23)), I, L))) (b := true) rfl rfl ?_
  refine Rc.callI (i := 18) (mid' := 800) (av := [.int (200 : Int32)]) (rest := [.ref 31, .int (1 : Int32), .ref 13]) (v := none) (M1 := (39, (rn_800_31 (upR (rn_800_23 (upR (rn_800_15 (upR (upR R 12 0 (some 13)) 12 1 (some 14))) 13 0 (some 15))) 14 0 (some 23))), I, L)) (a := 31) rfl rfl rfl cw_800 rfl rfl (Nat.le_of_ble_eq_true rfl) (cn_800_31 (by omega) hF) ?_
  have hF := cf_800_31 hF
  have g0 := rn_800_31_o g0
  have g1 := rn_800_31_o g1
  refine Rc.goL mt_600 0 (f2 := (46, [.ref 12, .int (1 : Int32)], [], (39, (upR (rn_800_31 (upR (rn_800_23 (upR (rn_800_15 (upR (upR R 12 0 (some 13)) 12 1 (some 14))) 13 0 (some 15))) 14 0 (some 23))) 13 1 (some 31)), I, L))) (b := true) rfl rfl ?_
  have hF := hF.uR (c := 13) (i := 1) (v := some 31) (by decide)
  have g0 := upR_o (c := 13) (i := 1) (v := some 31) rfl g0
  have g1 := upR_o (c := 13) (i := 1) (v := some 31) rfl g1
  refine Rc.goL mt_600 1 (f2 := (50, [.ref 12, .int (1 : Int32)], [(rv ((upR (rn_800_31 (upR (rn_800_23 (upR (rn_800_15 (upR (upR R 12 0 (some 13)) 12 1 (some 14))) 13 0 (some 15))) 14 0 (some 23))) 13 1 (some 31)) 12 1))], (39, (upR (rn_800_31 (upR (rn_800_23 (upR (rn_800_15 (upR (upR R 12 0 (some 13)) 12 1 (some 14))) 13 0 (some 15))) 14 0 (some 23))) 13 1 (some 31)), I, L))) (b := true) rfl rfl ?_
  rw [g1]
  show Rc (d + 1) 600 (50, [.ref 12, .int (1 : Int32)], [.ref 14], (39, (upR (rn_800_31 (upR (rn_800_23 (upR (rn_800_15 (upR (upR R 12 0 (some 13)) 12 1 (some 14))) 13 0 (some 15))) 14 0 (some 23))) 13 1 (some 31)), I, L)) _
  refine Rc.goL mt_600 0 (f2 := (51, [.ref 12, .int (1 : Int32)], [.int (1 : Int32), .ref 14], (39, (upR (rn_800_31 (upR (rn_800_23 (upR (rn_800_15 (upR (upR R 12 0 (some 13)) 12 1 (some 14))) 13 0 (some 15))) 14 0 (some 23))) 13 1 (some 31)), I, L))) (b := true) rfl rfl ?_
  refine Rc.goL mt_600 0 (f2 := (54, [.ref 12, .int (1 : Int32)], [.ref 39, .int (1 : Int32), .ref 14], nw (39, (upR (rn_800_31 (upR (rn_800_23 (upR (rn_800_15 (upR (upR R 12 0 (some 13)) 12 1 (some 14))) 13 0 (some 15))) 14 0 (some 23))) 13 1 (some 31)), I, L))) (b := ((Nat.beq (7 : Nat) 7 && Nat.beq (K0 39) 8 && Nat.beq (Z0 39) (nf 8)) && true)) rfl (by decide +kernel) ?_
  rw [(hF.mk1 (m := 40) rfl (by decide)).1]
  have hF := (hF.mk1 (m := 40) rfl (by decide)).2
  refine Rc.goL mt_600 1 (f2 := (57, [.ref 12, .int (1 : Int32)], [.int (60 : Int32), .ref 39, .ref 39, .int (1 : Int32), .ref 14], (40, (upR (rn_800_31 (upR (rn_800_23 (upR (rn_800_15 (upR (upR R 12 0 (some 13)) 12 1 (some 14))) 13 0 (some 15))) 14 0 (some 23))) 13 1 (some 31)), I, L))) (b := true) rfl rfl ?_
  refine Rc.callI (i := 18) (mid' := 800) (av := [.int (60 : Int32)]) (rest := [.ref 39, .int (1 : Int32), .ref 14]) (v := none) (M1 := (47, (rn_800_39 (upR (rn_800_31 (upR (rn_800_23 (upR (rn_800_15 (upR (upR R 12 0 (some 13)) 12 1 (some 14))) 13 0 (some 15))) 14 0 (some 23))) 13 1 (some 31))), I, L)) (a := 39) rfl rfl rfl cw_800 rfl rfl (Nat.le_of_ble_eq_true rfl) (cn_800_39 (by omega) hF) ?_
  have hF := cf_800_39 hF
  have g0 := rn_800_39_o g0
  have g1 := rn_800_39_o g1
  refine Rc.goL mt_600 0 (f2 := (61, [.ref 12, .int (1 : Int32)], [], (47, (upR (rn_800_39 (upR (rn_800_31 (upR (rn_800_23 (upR (rn_800_15 (upR (upR R 12 0 (some 13)) 12 1 (some 14))) 13 0 (some 15))) 14 0 (some 23))) 13 1 (some 31))) 14 1 (some 39)), I, L))) (b := true) rfl rfl ?_
  have hF := hF.uR (c := 14) (i := 1) (v := some 39) (by decide)
  have g0 := upR_o (c := 14) (i := 1) (v := some 39) rfl g0
  have g1 := upR_o (c := 14) (i := 1) (v := some 39) rfl g1
  refine Rc.goL mt_600 0 (f2 := (64, [.ref 12, .int ((1 : Int32) + 1)], [], (47, (upR (rn_800_39 (upR (rn_800_31 (upR (rn_800_23 (upR (rn_800_15 (upR (upR R 12 0 (some 13)) 12 1 (some 14))) 13 0 (some 15))) 14 0 (some 23))) 13 1 (some 31))) 14 1 (some 39)), I, L))) (b := true) rfl rfl ?_
  rw [show (1 : Int32) + 1 = 2 from by decide]
  refine Rc.goL mt_600 0 (f2 := (24, [.ref 12, .int (2 : Int32)], [], (47, (upR (rn_800_39 (upR (rn_800_31 (upR (rn_800_23 (upR (rn_800_15 (upR (upR R 12 0 (some 13)) 12 1 (some 14))) 13 0 (some 15))) 14 0 (some 23))) 13 1 (some 31))) 14 1 (some 39)), I, L))) (b := true) rfl rfl ?_
  refine Rc.goL mt_600 2 (f2 := ((if (2 : Int32) < (10 : Int32) then 30 else 67), [.ref 12, .int (2 : Int32)], [], (47, (upR (rn_800_39 (upR (rn_800_31 (upR (rn_800_23 (upR (rn_800_15 (upR (upR R 12 0 (some 13)) 12 1 (some 14))) 13 0 (some 15))) 14 0 (some 23))) 13 1 (some 31))) 14 1 (some 39)), I, L))) (b := true) rfl rfl ?_
  rw [if_pos (by decide)]
  refine Rc.goL mt_600 1 (f2 := (34, [.ref 12, .int (2 : Int32)], [(rv ((upR (rn_800_39 (upR (rn_800_31 (upR (rn_800_23 (upR (rn_800_15 (upR (upR R 12 0 (some 13)) 12 1 (some 14))) 13 0 (some 15))) 14 0 (some 23))) 13 1 (some 31))) 14 1 (some 39)) 12 0))], (47, (upR (rn_800_39 (upR (rn_800_31 (upR (rn_800_23 (upR (rn_800_15 (upR (upR R 12 0 (some 13)) 12 1 (some 14))) 13 0 (some 15))) 14 0 (some 23))) 13 1 (some 31))) 14 1 (some 39)), I, L))) (b := true) rfl rfl ?_
  rw [g0]
  show Rc (d + 1) 600 (34, [.ref 12, .int (2 : Int32)], [.ref 13], (47, (upR (rn_800_39 (upR (rn_800_31 (upR (rn_800_23 (upR (rn_800_15 (upR (upR R 12 0 (some 13)) 12 1 (some 14))) 13 0 (some 15))) 14 0 (some 23))) 13 1 (some 31))) 14 1 (some 39)), I, L)) _
  refine Rc.goL mt_600 0 (f2 := (35, [.ref 12, .int (2 : Int32)], [.int (2 : Int32), .ref 13], (47, (upR (rn_800_39 (upR (rn_800_31 (upR (rn_800_23 (upR (rn_800_15 (upR (upR R 12 0 (some 13)) 12 1 (some 14))) 13 0 (some 15))) 14 0 (some 23))) 13 1 (some 31))) 14 1 (some 39)), I, L))) (b := true) rfl rfl ?_
  refine Rc.goL mt_600 0 (f2 := (38, [.ref 12, .int (2 : Int32)], [.ref 47, .int (2 : Int32), .ref 13], nw (47, (upR (rn_800_39 (upR (rn_800_31 (upR (rn_800_23 (upR (rn_800_15 (upR (upR R 12 0 (some 13)) 12 1 (some 14))) 13 0 (some 15))) 14 0 (some 23))) 13 1 (some 31))) 14 1 (some 39)), I, L))) (b := ((Nat.beq (7 : Nat) 7 && Nat.beq (K0 47) 8 && Nat.beq (Z0 47) (nf 8)) && true)) rfl (by decide +kernel) ?_
  rw [(hF.mk1 (m := 48) rfl (by decide)).1]
  have hF := (hF.mk1 (m := 48) rfl (by decide)).2
  refine Rc.goL mt_600 1 (f2 := (42, [.ref 12, .int (2 : Int32)], [.int (200 : Int32), .ref 47, .ref 47, .int (2 : Int32), .ref 13], (48, (upR (rn_800_39 (upR (rn_800_31 (upR (rn_800_23 (upR (rn_800_15 (upR (upR R 12 0 (some 13)) 12 1 (some 14))) 13 0 (some 15))) 14 0 (some 23))) 13 1 (some 31))) 14 1 (some 39)), I, L))) (b := true) rfl rfl ?_
  refine Rc.callI (i := 18) (mid' := 800) (av := [.int (200 : Int32)]) (rest := [.ref 47, .int (2 : Int32), .ref 13]) (v := none) (M1 := (55, (rn_800_47 (upR (rn_800_39 (upR (rn_800_31 (upR (rn_800_23 (upR (rn_800_15 (upR (upR R 12 0 (some 13)) 12 1 (some 14))) 13 0 (some 15))) 14 0 (some 23))) 13 1 (some 31))) 14 1 (some 39))), I, L)) (a := 47) rfl rfl rfl cw_800 rfl rfl (Nat.le_of_ble_eq_true rfl) (cn_800_47 (by omega) hF) ?_
  have hF := cf_800_47 hF
  have g0 := rn_800_47_o g0
  have g1 := rn_800_47_o g1
  refine Rc.goL mt_600 0 (f2 := (46, [.ref 12, .int (2 : Int32)], [], (55, (upR (rn_800_47 (upR (rn_800_39 (upR (rn_800_31 (upR (rn_800_23 (upR (rn_800_15 (upR (upR R 12 0 (some 13)) 12 1 (some 14))) 13 0 (some 15))) 14 0 (some 23))) 13 1 (some 31))) 14 1 (some 39))) 13 2 (some 47)), I, L))) (b := true) rfl rfl ?_
  have hF := hF.uR (c := 13) (i := 2) (v := some 47) (by decide)
  have g0 := upR_o (c := 13) (i := 2) (v := some 47) rfl g0
  have g1 := upR_o (c := 13) (i := 2) (v := some 47) rfl g1
  refine Rc.goL mt_600 1 (f2 := (50, [.ref 12, .int (2 : Int32)], [(rv ((upR (rn_800_47 (upR (rn_800_39 (upR (rn_800_31 (upR (rn_800_23 (upR (rn_800_15 (upR (upR R 12 0 (some 13)) 12 1 (some 14))) 13 0 (some 15))) 14 0 (some 23))) 13 1 (some 31))) 14 1 (some 39))) 13 2 (some 47)) 12 1))], (55, (upR (rn_800_47 (upR (rn_800_39 (upR (rn_800_31 (upR (rn_800_23 (upR (rn_800_15 (upR (upR R 12 0 (some 13)) 12 1 (some 14))) 13 0 (some 15))) 14 0 (some 23))) 13 1 (some 31))) 14 1 (some 39))) 13 2 (some 47)), I, L))) (b := true) rfl rfl ?_
  rw [g1]
  show Rc (d + 1) 600 (50, [.ref 12, .int (2 : Int32)], [.ref 14], (55, (upR (rn_800_47 (upR (rn_800_39 (upR (rn_800_31 (upR (rn_800_23 (upR (rn_800_15 (upR (upR R 12 0 (some 13)) 12 1 (some 14))) 13 0 (some 15))) 14 0 (some 23))) 13 1 (some 31))) 14 1 (some 39))) 13 2 (some 47)), I, L)) _
  refine Rc.goL mt_600 0 (f2 := (51, [.ref 12, .int (2 : Int32)], [.int (2 : Int32), .ref 14], (55, (upR (rn_800_47 (upR (rn_800_39 (upR (rn_800_31 (upR (rn_800_23 (upR (rn_800_15 (upR (upR R 12 0 (some 13)) 12 1 (some 14))) 13 0 (some 15))) 14 0 (some 23))) 13 1 (some 31))) 14 1 (some 39))) 13 2 (some 47)), I, L))) (b := true) rfl rfl ?_
  refine Rc.goL mt_600 0 (f2 := (54, [.ref 12, .int (2 : Int32)], [.ref 55, .int (2 : Int32), .ref 14], nw (55, (upR (rn_800_47 (upR (rn_800_39 (upR (rn_800_31 (upR (rn_800_23 (upR (rn_800_15 (upR (upR R 12 0 (some 13)) 12 1 (some 14))) 13 0 (some 15))) 14 0 (some 23))) 13 1 (some 31))) 14 1 (some 39))) 13 2 (some 47)), I, L))) (b := ((Nat.beq (7 : Nat) 7 && Nat.beq (K0 55) 8 && Nat.beq (Z0 55) (nf 8)) && true)) rfl (by decide +kernel) ?_
  rw [(hF.mk1 (m := 56) rfl (by decide)).1]
  have hF := (hF.mk1 (m := 56) rfl (by decide)).2
  refine Rc.goL mt_600 1 (f2 := (57, [.ref 12, .int (2 : Int32)], [.int (60 : Int32), .ref 55, .ref 55, .int (2 : Int32), .ref 14], (56, (upR (rn_800_47 (upR (rn_800_39 (upR (rn_800_31 (upR (rn_800_23 (upR (rn_800_15 (upR (upR R 12 0 (some 13)) 12 1 (some 14))) 13 0 (some 15))) 14 0 (some 23))) 13 1 (some 31))) 14 1 (some 39))) 13 2 (some 47)), I, L))) (b := true) rfl rfl ?_
  refine Rc.callI (i := 18) (mid' := 800) (av := [.int (60 : Int32)]) (rest := [.ref 55, .int (2 : Int32), .ref 14]) (v := none) (M1 := (63, (rn_800_55 (upR (rn_800_47 (upR (rn_800_39 (upR (rn_800_31 (upR (rn_800_23 (upR (rn_800_15 (upR (upR R 12 0 (some 13)) 12 1 (some 14))) 13 0 (some 15))) 14 0 (some 23))) 13 1 (some 31))) 14 1 (some 39))) 13 2 (some 47))), I, L)) (a := 55) rfl rfl rfl cw_800 rfl rfl (Nat.le_of_ble_eq_true rfl) (cn_800_55 (by omega) hF) ?_
  have hF := cf_800_55 hF
  have g0 := rn_800_55_o g0
  have g1 := rn_800_55_o g1
  refine Rc.goL mt_600 0 (f2 := (61, [.ref 12, .int (2 : Int32)], [], (63, (upR (rn_800_55 (upR (rn_800_47 (upR (rn_800_39 (upR (rn_800_31 (upR (rn_800_23 (upR (rn_800_15 (upR (upR R 12 0 (some 13)) 12 1 (some 14))) 13 0 (some 15))) 14 0 (some 23))) 13 1 (some 31))) 14 1 (some 39))) 13 2 (some 47))) 14 2 (some 55)), I, L))) (b := true) rfl rfl ?_
  have hF := hF.uR (c := 14) (i := 2) (v := some 55) (by decide)
  have g0 := upR_o (c := 14) (i := 2) (v := some 55) rfl g0
  have g1 := upR_o (c := 14) (i := 2) (v := some 55) rfl g1
  refine Rc.goL mt_600 0 (f2 := (64, [.ref 12, .int ((2 : Int32) + 1)], [], (63, (upR (rn_800_55 (upR (rn_800_47 (upR (rn_800_39 (upR (rn_800_31 (upR (rn_800_23 (upR (rn_800_15 (upR (upR R 12 0 (some 13)) 12 1 (some 14))) 13 0 (some 15))) 14 0 (some 23))) 13 1 (some 31))) 14 1 (some 39))) 13 2 (some 47))) 14 2 (some 55)), I, L))) (b := true) rfl rfl ?_
  rw [show (2 : Int32) + 1 = 3 from by decide]
  refine Rc.goL mt_600 0 (f2 := (24, [.ref 12, .int (3 : Int32)], [], (63, (upR (rn_800_55 (upR (rn_800_47 (upR (rn_800_39 (upR (rn_800_31 (upR (rn_800_23 (upR (rn_800_15 (upR (upR R 12 0 (some 13)) 12 1 (some 14))) 13 0 (some 15))) 14 0 (some 23))) 13 1 (some 31))) 14 1 (some 39))) 13 2 (some 47))) 14 2 (some 55)), I, L))) (b := true) rfl rfl ?_
  refine Rc.goL mt_600 2 (f2 := ((if (3 : Int32) < (10 : Int32) then 30 else 67), [.ref 12, .int (3 : Int32)], [], (63, (upR (rn_800_55 (upR (rn_800_47 (upR (rn_800_39 (upR (rn_800_31 (upR (rn_800_23 (upR (rn_800_15 (upR (upR R 12 0 (some 13)) 12 1 (some 14))) 13 0 (some 15))) 14 0 (some 23))) 13 1 (some 31))) 14 1 (some 39))) 13 2 (some 47))) 14 2 (some 55)), I, L))) (b := true) rfl rfl ?_
  rw [if_pos (by decide)]
  refine Rc.goL mt_600 1 (f2 := (34, [.ref 12, .int (3 : Int32)], [(rv ((upR (rn_800_55 (upR (rn_800_47 (upR (rn_800_39 (upR (rn_800_31 (upR (rn_800_23 (upR (rn_800_15 (upR (upR R 12 0 (some 13)) 12 1 (some 14))) 13 0 (some 15))) 14 0 (some 23))) 13 1 (some 31))) 14 1 (some 39))) 13 2 (some 47))) 14 2 (some 55)) 12 0))], (63, (upR (rn_800_55 (upR (rn_800_47 (upR (rn_800_39 (upR (rn_800_31 (upR (rn_800_23 (upR (rn_800_15 (upR (upR R 12 0 (some 13)) 12 1 (some 14))) 13 0 (some 15))) 14 0 (some 23))) 13 1 (some 31))) 14 1 (some 39))) 13 2 (some 47))) 14 2 (some 55)), I, L))) (b := true) rfl rfl ?_
  rw [g0]
  show Rc (d + 1) 600 (34, [.ref 12, .int (3 : Int32)], [.ref 13], (63, (upR (rn_800_55 (upR (rn_800_47 (upR (rn_800_39 (upR (rn_800_31 (upR (rn_800_23 (upR (rn_800_15 (upR (upR R 12 0 (some 13)) 12 1 (some 14))) 13 0 (some 15))) 14 0 (some 23))) 13 1 (some 31))) 14 1 (some 39))) 13 2 (some 47))) 14 2 (some 55)), I, L)) _
  refine Rc.goL mt_600 0 (f2 := (35, [.ref 12, .int (3 : Int32)], [.int (3 : Int32), .ref 13], (63, (upR (rn_800_55 (upR (rn_800_47 (upR (rn_800_39 (upR (rn_800_31 (upR (rn_800_23 (upR (rn_800_15 (upR (upR R 12 0 (some 13)) 12 1 (some 14))) 13 0 (some 15))) 14 0 (some 23))) 13 1 (some 31))) 14 1 (some 39))) 13 2 (some 47))) 14 2 (some 55)), I, L))) (b := true) rfl rfl ?_
  refine Rc.goL mt_600 0 (f2 := (38, [.ref 12, .int (3 : Int32)], [.ref 63, .int (3 : Int32), .ref 13], nw (63, (upR (rn_800_55 (upR (rn_800_47 (upR (rn_800_39 (upR (rn_800_31 (upR (rn_800_23 (upR (rn_800_15 (upR (upR R 12 0 (some 13)) 12 1 (some 14))) 13 0 (some 15))) 14 0 (some 23))) 13 1 (some 31))) 14 1 (some 39))) 13 2 (some 47))) 14 2 (some 55)), I, L))) (b := ((Nat.beq (7 : Nat) 7 && Nat.beq (K0 63) 8 && Nat.beq (Z0 63) (nf 8)) && true)) rfl (by decide +kernel) ?_
  rw [(hF.mk1 (m := 64) rfl (by decide)).1]
  have hF := (hF.mk1 (m := 64) rfl (by decide)).2
  refine Rc.goL mt_600 1 (f2 := (42, [.ref 12, .int (3 : Int32)], [.int (200 : Int32), .ref 63, .ref 63, .int (3 : Int32), .ref 13], (64, (upR (rn_800_55 (upR (rn_800_47 (upR (rn_800_39 (upR (rn_800_31 (upR (rn_800_23 (upR (rn_800_15 (upR (upR R 12 0 (some 13)) 12 1 (some 14))) 13 0 (some 15))) 14 0 (some 23))) 13 1 (some 31))) 14 1 (some 39))) 13 2 (some 47))) 14 2 (some 55)), I, L))) (b := true) rfl rfl ?_
  refine Rc.callI (i := 18) (mid' := 800) (av := [.int (200 : Int32)]) (rest := [.ref 63, .int (3 : Int32), .ref 13]) (v := none) (M1 := (71, (rn_800_63 (upR (rn_800_55 (upR (rn_800_47 (upR (rn_800_39 (upR (rn_800_31 (upR (rn_800_23 (upR (rn_800_15 (upR (upR R 12 0 (some 13)) 12 1 (some 14))) 13 0 (some 15))) 14 0 (some 23))) 13 1 (some 31))) 14 1 (some 39))) 13 2 (some 47))) 14 2 (some 55))), I, L)) (a := 63) rfl rfl rfl cw_800 rfl rfl (Nat.le_of_ble_eq_true rfl) (cn_800_63 (by omega) hF) ?_
  have hF := cf_800_63 hF
  have g0 := rn_800_63_o g0
  have g1 := rn_800_63_o g1
  refine Rc.goL mt_600 0 (f2 := (46, [.ref 12, .int (3 : Int32)], [], (71, (upR (rn_800_63 (upR (rn_800_55 (upR (rn_800_47 (upR (rn_800_39 (upR (rn_800_31 (upR (rn_800_23 (upR (rn_800_15 (upR (upR R 12 0 (some 13)) 12 1 (some 14))) 13 0 (some 15))) 14 0 (some 23))) 13 1 (some 31))) 14 1 (some 39))) 13 2 (some 47))) 14 2 (some 55))) 13 3 (some 63)), I, L))) (b := true) rfl rfl ?_
  have hF := hF.uR (c := 13) (i := 3) (v := some 63) (by decide)
  have g0 := upR_o (c := 13) (i := 3) (v := some 63) rfl g0
  have g1 := upR_o (c := 13) (i := 3) (v := some 63) rfl g1
  refine Rc.goL mt_600 1 (f2 := (50, [.ref 12, .int (3 : Int32)], [(rv ((upR (rn_800_63 (upR (rn_800_55 (upR (rn_800_47 (upR (rn_800_39 (upR (rn_800_31 (upR (rn_800_23 (upR (rn_800_15 (upR (upR R 12 0 (some 13)) 12 1 (some 14))) 13 0 (some 15))) 14 0 (some 23))) 13 1 (some 31))) 14 1 (some 39))) 13 2 (some 47))) 14 2 (some 55))) 13 3 (some 63)) 12 1))], (71, (upR (rn_800_63 (upR (rn_800_55 (upR (rn_800_47 (upR (rn_800_39 (upR (rn_800_31 (upR (rn_800_23 (upR (rn_800_15 (upR (upR R 12 0 (some 13)) 12 1 (some 14))) 13 0 (some 15))) 14 0 (some 23))) 13 1 (some 31))) 14 1 (some 39))) 13 2 (some 47))) 14 2 (some 55))) 13 3 (some 63)), I, L))) (b := true) rfl rfl ?_
  rw [g1]
  show Rc (d + 1) 600 (50, [.ref 12, .int (3 : Int32)], [.ref 14], (71, (upR (rn_800_63 (upR (rn_800_55 (upR (rn_800_47 (upR (rn_800_39 (upR (rn_800_31 (upR (rn_800_23 (upR (rn_800_15 (upR (upR R 12 0 (some 13)) 12 1 (some 14))) 13 0 (some 15))) 14 0 (some 23))) 13 1 (some 31))) 14 1 (some 39))) 13 2 (some 47))) 14 2 (some 55))) 13 3 (some 63)), I, L)) _
  refine Rc.goL mt_600 0 (f2 := (51, [.ref 12, .int (3 : Int32)], [.int (3 : Int32), .ref 14], (71, (upR (rn_800_63 (upR (rn_800_55 (upR (rn_800_47 (upR (rn_800_39 (upR (rn_800_31 (upR (rn_800_23 (upR (rn_800_15 (upR (upR R 12 0 (some 13)) 12 1 (some 14))) 13 0 (some 15))) 14 0 (some 23))) 13 1 (some 31))) 14 1 (some 39))) 13 2 (some 47))) 14 2 (some 55))) 13 3 (some 63)), I, L))) (b := true) rfl rfl ?_
  refine Rc.goL mt_600 0 (f2 := (54, [.ref 12, .int (3 : Int32)], [.ref 71, .int (3 : Int32), .ref 14], nw (71, (upR (rn_800_63 (upR (rn_800_55 (upR (rn_800_47 (upR (rn_800_39 (upR (rn_800_31 (upR (rn_800_23 (upR (rn_800_15 (upR (upR R 12 0 (some 13)) 12 1 (some 14))) 13 0 (some 15))) 14 0 (some 23))) 13 1 (some 31))) 14 1 (some 39))) 13 2 (some 47))) 14 2 (some 55))) 13 3 (some 63)), I, L))) (b := ((Nat.beq (7 : Nat) 7 && Nat.beq (K0 71) 8 && Nat.beq (Z0 71) (nf 8)) && true)) rfl (by decide +kernel) ?_
  rw [(hF.mk1 (m := 72) rfl (by decide)).1]
  have hF := (hF.mk1 (m := 72) rfl (by decide)).2
  refine Rc.goL mt_600 1 (f2 := (57, [.ref 12, .int (3 : Int32)], [.int (60 : Int32), .ref 71, .ref 71, .int (3 : Int32), .ref 14], (72, (upR (rn_800_63 (upR (rn_800_55 (upR (rn_800_47 (upR (rn_800_39 (upR (rn_800_31 (upR (rn_800_23 (upR (rn_800_15 (upR (upR R 12 0 (some 13)) 12 1 (some 14))) 13 0 (some 15))) 14 0 (some 23))) 13 1 (some 31))) 14 1 (some 39))) 13 2 (some 47))) 14 2 (some 55))) 13 3 (some 63)), I, L))) (b := true) rfl rfl ?_
  refine Rc.callI (i := 18) (mid' := 800) (av := [.int (60 : Int32)]) (rest := [.ref 71, .int (3 : Int32), .ref 14]) (v := none) (M1 := (79, (rn_800_71 (upR (rn_800_63 (upR (rn_800_55 (upR (rn_800_47 (upR (rn_800_39 (upR (rn_800_31 (upR (rn_800_23 (upR (rn_800_15 (upR (upR R 12 0 (some 13)) 12 1 (some 14))) 13 0 (some 15))) 14 0 (some 23))) 13 1 (some 31))) 14 1 (some 39))) 13 2 (some 47))) 14 2 (some 55))) 13 3 (some 63))), I, L)) (a := 71) rfl rfl rfl cw_800 rfl rfl (Nat.le_of_ble_eq_true rfl) (cn_800_71 (by omega) hF) ?_
  have hF := cf_800_71 hF
  have g0 := rn_800_71_o g0
  have g1 := rn_800_71_o g1
  refine Rc.goL mt_600 0 (f2 := (61, [.ref 12, .int (3 : Int32)], [], (79, (upR (rn_800_71 (upR (rn_800_63 (upR (rn_800_55 (upR (rn_800_47 (upR (rn_800_39 (upR (rn_800_31 (upR (rn_800_23 (upR (rn_800_15 (upR (upR R 12 0 (some 13)) 12 1 (some 14))) 13 0 (some 15))) 14 0 (some 23))) 13 1 (some 31))) 14 1 (some 39))) 13 2 (some 47))) 14 2 (some 55))) 13 3 (some 63))) 14 3 (some 71)), I, L))) (b := true) rfl rfl ?_
  have hF := hF.uR (c := 14) (i := 3) (v := some 71) (by decide)
  have g0 := upR_o (c := 14) (i := 3) (v := some 71) rfl g0
  have g1 := upR_o (c := 14) (i := 3) (v := some 71) rfl g1
  refine Rc.goL mt_600 0 (f2 := (64, [.ref 12, .int ((3 : Int32) + 1)], [], (79, (upR (rn_800_71 (upR (rn_800_63 (upR (rn_800_55 (upR (rn_800_47 (upR (rn_800_39 (upR (rn_800_31 (upR (rn_800_23 (upR (rn_800_15 (upR (upR R 12 0 (some 13)) 12 1 (some 14))) 13 0 (some 15))) 14 0 (some 23))) 13 1 (some 31))) 14 1 (some 39))) 13 2 (some 47))) 14 2 (some 55))) 13 3 (some 63))) 14 3 (some 71)), I, L))) (b := true) rfl rfl ?_
  rw [show (3 : Int32) + 1 = 4 from by decide]
  refine Rc.goL mt_600 0 (f2 := (24, [.ref 12, .int (4 : Int32)], [], (79, (upR (rn_800_71 (upR (rn_800_63 (upR (rn_800_55 (upR (rn_800_47 (upR (rn_800_39 (upR (rn_800_31 (upR (rn_800_23 (upR (rn_800_15 (upR (upR R 12 0 (some 13)) 12 1 (some 14))) 13 0 (some 15))) 14 0 (some 23))) 13 1 (some 31))) 14 1 (some 39))) 13 2 (some 47))) 14 2 (some 55))) 13 3 (some 63))) 14 3 (some 71)), I, L))) (b := true) rfl rfl ?_
  refine Rc.goL mt_600 2 (f2 := ((if (4 : Int32) < (10 : Int32) then 30 else 67), [.ref 12, .int (4 : Int32)], [], (79, (upR (rn_800_71 (upR (rn_800_63 (upR (rn_800_55 (upR (rn_800_47 (upR (rn_800_39 (upR (rn_800_31 (upR (rn_800_23 (upR (rn_800_15 (upR (upR R 12 0 (some 13)) 12 1 (some 14))) 13 0 (some 15))) 14 0 (some 23))) 13 1 (some 31))) 14 1 (some 39))) 13 2 (some 47))) 14 2 (some 55))) 13 3 (some 63))) 14 3 (some 71)), I, L))) (b := true) rfl rfl ?_
  rw [if_pos (by decide)]
  refine Rc.goL mt_600 1 (f2 := (34, [.ref 12, .int (4 : Int32)], [(rv ((upR (rn_800_71 (upR (rn_800_63 (upR (rn_800_55 (upR (rn_800_47 (upR (rn_800_39 (upR (rn_800_31 (upR (rn_800_23 (upR (rn_800_15 (upR (upR R 12 0 (some 13)) 12 1 (some 14))) 13 0 (some 15))) 14 0 (some 23))) 13 1 (some 31))) 14 1 (some 39))) 13 2 (some 47))) 14 2 (some 55))) 13 3 (some 63))) 14 3 (some 71)) 12 0))], (79, (upR (rn_800_71 (upR (rn_800_63 (upR (rn_800_55 (upR (rn_800_47 (upR (rn_800_39 (upR (rn_800_31 (upR (rn_800_23 (upR (rn_800_15 (upR (upR R 12 0 (some 13)) 12 1 (some 14))) 13 0 (some 15))) 14 0 (some 23))) 13 1 (some 31))) 14 1 (some 39))) 13 2 (some 47))) 14 2 (some 55))) 13 3 (some 63))) 14 3 (some 71)), I, L))) (b := true) rfl rfl ?_
  rw [g0]
  show Rc (d + 1) 600 (34, [.ref 12, .int (4 : Int32)], [.ref 13], (79, (upR (rn_800_71 (upR (rn_800_63 (upR (rn_800_55 (upR (rn_800_47 (upR (rn_800_39 (upR (rn_800_31 (upR (rn_800_23 (upR (rn_800_15 (upR (upR R 12 0 (some 13)) 12 1 (some 14))) 13 0 (some 15))) 14 0 (some 23))) 13 1 (some 31))) 14 1 (some 39))) 13 2 (some 47))) 14 2 (some 55))) 13 3 (some 63))) 14 3 (some 71)), I, L)) _
  refine Rc.goL mt_600 0 (f2 := (35, [.ref 12, .int (4 : Int32)], [.int (4 : Int32), .ref 13], (79, (upR (rn_800_71 (upR (rn_800_63 (upR (rn_800_55 (upR (rn_800_47 (upR (rn_800_39 (upR (rn_800_31 (upR (rn_800_23 (upR (rn_800_15 (upR (upR R 12 0 (some 13)) 12 1 (some 14))) 13 0 (some 15))) 14 0 (some 23))) 13 1 (some 31))) 14 1 (some 39))) 13 2 (some 47))) 14 2 (some 55))) 13 3 (some 63))) 14 3 (some 71)), I, L))) (b := true) rfl rfl ?_
  refine Rc.goL mt_600 0 (f2 := (38, [.ref 12, .int (4 : Int32)], [.ref 79, .int (4 : Int32), .ref 13], nw (79, (upR (rn_800_71 (upR (rn_800_63 (upR (rn_800_55 (upR (rn_800_47 (upR (rn_800_39 (upR (rn_800_31 (upR (rn_800_23 (upR (rn_800_15 (upR (upR R 12 0 (some 13)) 12 1 (some 14))) 13 0 (some 15))) 14 0 (some 23))) 13 1 (some 31))) 14 1 (some 39))) 13 2 (some 47))) 14 2 (some 55))) 13 3 (some 63))) 14 3 (some 71)), I, L))) (b := ((Nat.beq (7 : Nat) 7 && Nat.beq (K0 79) 8 && Nat.beq (Z0 79) (nf 8)) && true)) rfl (by decide +kernel) ?_
  rw [(hF.mk1 (m := 80) rfl (by decide)).1]
  have hF := (hF.mk1 (m := 80) rfl (by decide)).2
  refine Rc.goL mt_600 1 (f2 := (42, [.ref 12, .int (4 : Int32)], [.int (200 : Int32), .ref 79, .ref 79, .int (4 : Int32), .ref 13], (80, (upR (rn_800_71 (upR (rn_800_63 (upR (rn_800_55 (upR (rn_800_47 (upR (rn_800_39 (upR (rn_800_31 (upR (rn_800_23 (upR (rn_800_15 (upR (upR R 12 0 (some 13)) 12 1 (some 14))) 13 0 (some 15))) 14 0 (some 23))) 13 1 (some 31))) 14 1 (some 39))) 13 2 (some 47))) 14 2 (some 55))) 13 3 (some 63))) 14 3 (some 71)), I, L))) (b := true) rfl rfl ?_
  refine Rc.callI (i := 18) (mid' := 800) (av := [.int (200 : Int32)]) (rest := [.ref 79, .int (4 : Int32), .ref 13]) (v := none) (M1 := (87, (rn_800_79 (upR (rn_800_71 (upR (rn_800_63 (upR (rn_800_55 (upR (rn_800_47 (upR (rn_800_39 (upR (rn_800_31 (upR (rn_800_23 (upR (rn_800_15 (upR (upR R 12 0 (some 13)) 12 1 (some 14))) 13 0 (some 15))) 14 0 (some 23))) 13 1 (some 31))) 14 1 (some 39))) 13 2 (some 47))) 14 2 (some 55))) 13 3 (some 63))) 14 3 (some 71))), I, L)) (a := 79) rfl rfl rfl cw_800 rfl rfl (Nat.le_of_ble_eq_true rfl) (cn_800_79 (by omega) hF) ?_
  have hF := cf_800_79 hF
  have g0 := rn_800_79_o g0
  have g1 := rn_800_79_o g1
  refine Rc.goL mt_600 0 (f2 := (46, [.ref 12, .int (4 : Int32)], [], (87, (upR (rn_800_79 (upR (rn_800_71 (upR (rn_800_63 (upR (rn_800_55 (upR (rn_800_47 (upR (rn_800_39 (upR (rn_800_31 (upR (rn_800_23 (upR (rn_800_15 (upR (upR R 12 0 (some 13)) 12 1 (some 14))) 13 0 (some 15))) 14 0 (some 23))) 13 1 (some 31))) 14 1 (some 39))) 13 2 (some 47))) 14 2 (some 55))) 13 3 (some 63))) 14 3 (some 71))) 13 4 (some 79)), I, L))) (b := true) rfl rfl ?_
  have hF := hF.uR (c := 13) (i := 4) (v := some 79) (by decide)
  have g0 := upR_o (c := 13) (i := 4) (v := some 79) rfl g0
  have g1 := upR_o (c := 13) (i := 4) (v := some 79) rfl g1
  refine Rc.goL mt_600 1 (f2 := (50, [.ref 12, .int (4 : Int32)], [(rv ((upR (rn_800_79 (upR (rn_800_71 (upR (rn_800_63 (upR (rn_800_55 (upR (rn_800_47 (upR (rn_800_39 (upR (rn_800_31 (upR (rn_800_23 (upR (rn_800_15 (upR (upR R 12 0 (some 13)) 12 1 (some 14))) 13 0 (some 15))) 14 0 (some 23))) 13 1 (some 31))) 14 1 (some 39))) 13 2 (some 47))) 14 2 (some 55))) 13 3 (some 63))) 14 3 (some 71))) 13 4 (some 79)) 12 1))], (87, (upR (rn_800_79 (upR (rn_800_71 (upR (rn_800_63 (upR (rn_800_55 (upR (rn_800_47 (upR (rn_800_39 (upR (rn_800_31 (upR (rn_800_23 (upR (rn_800_15 (upR (upR R 12 0 (some 13)) 12 1 (some 14))) 13 0 (some 15))) 14 0 (some 23))) 13 1 (some 31))) 14 1 (some 39))) 13 2 (some 47))) 14 2 (some 55))) 13 3 (some 63))) 14 3 (some 71))) 13 4 (some 79)), I, L))) (b := true) rfl rfl ?_
  rw [g1]
  show Rc (d + 1) 600 (50, [.ref 12, .int (4 : Int32)], [.ref 14], (87, (upR (rn_800_79 (upR (rn_800_71 (upR (rn_800_63 (upR (rn_800_55 (upR (rn_800_47 (upR (rn_800_39 (upR (rn_800_31 (upR (rn_800_23 (upR (rn_800_15 (upR (upR R 12 0 (some 13)) 12 1 (some 14))) 13 0 (some 15))) 14 0 (some 23))) 13 1 (some 31))) 14 1 (some 39))) 13 2 (some 47))) 14 2 (some 55))) 13 3 (some 63))) 14 3 (some 71))) 13 4 (some 79)), I, L)) _
  refine Rc.goL mt_600 0 (f2 := (51, [.ref 12, .int (4 : Int32)], [.int (4 : Int32), .ref 14], (87, (upR (rn_800_79 (upR (rn_800_71 (upR (rn_800_63 (upR (rn_800_55 (upR (rn_800_47 (upR (rn_800_39 (upR (rn_800_31 (upR (rn_800_23 (upR (rn_800_15 (upR (upR R 12 0 (some 13)) 12 1 (some 14))) 13 0 (some 15))) 14 0 (some 23))) 13 1 (some 31))) 14 1 (some 39))) 13 2 (some 47))) 14 2 (some 55))) 13 3 (some 63))) 14 3 (some 71))) 13 4 (some 79)), I, L))) (b := true) rfl rfl ?_
  refine Rc.goL mt_600 0 (f2 := (54, [.ref 12, .int (4 : Int32)], [.ref 87, .int (4 : Int32), .ref 14], nw (87, (upR (rn_800_79 (upR (rn_800_71 (upR (rn_800_63 (upR (rn_800_55 (upR (rn_800_47 (upR (rn_800_39 (upR (rn_800_31 (upR (rn_800_23 (upR (rn_800_15 (upR (upR R 12 0 (some 13)) 12 1 (some 14))) 13 0 (some 15))) 14 0 (some 23))) 13 1 (some 31))) 14 1 (some 39))) 13 2 (some 47))) 14 2 (some 55))) 13 3 (some 63))) 14 3 (some 71))) 13 4 (some 79)), I, L))) (b := ((Nat.beq (7 : Nat) 7 && Nat.beq (K0 87) 8 && Nat.beq (Z0 87) (nf 8)) && true)) rfl (by decide +kernel) ?_
  rw [(hF.mk1 (m := 88) rfl (by decide)).1]
  have hF := (hF.mk1 (m := 88) rfl (by decide)).2
  refine Rc.goL mt_600 1 (f2 := (57, [.ref 12, .int (4 : Int32)], [.int (60 : Int32), .ref 87, .ref 87, .int (4 : Int32), .ref 14], (88, (upR (rn_800_79 (upR (rn_800_71 (upR (rn_800_63 (upR (rn_800_55 (upR (rn_800_47 (upR (rn_800_39 (upR (rn_800_31 (upR (rn_800_23 (upR (rn_800_15 (upR (upR R 12 0 (some 13)) 12 1 (some 14))) 13 0 (some 15))) 14 0 (some 23))) 13 1 (some 31))) 14 1 (some 39))) 13 2 (some 47))) 14 2 (some 55))) 13 3 (some 63))) 14 3 (some 71))) 13 4 (some 79)), I, L))) (b := true) rfl rfl ?_
  refine Rc.callI (i := 18) (mid' := 800) (av := [.int (60 : Int32)]) (rest := [.ref 87, .int (4 : Int32), .ref 14]) (v := none) (M1 := (95, (rn_800_87 (upR (rn_800_79 (upR (rn_800_71 (upR (rn_800_63 (upR (rn_800_55 (upR (rn_800_47 (upR (rn_800_39 (upR (rn_800_31 (upR (rn_800_23 (upR (rn_800_15 (upR (upR R 12 0 (some 13)) 12 1 (some 14))) 13 0 (some 15))) 14 0 (some 23))) 13 1 (some 31))) 14 1 (some 39))) 13 2 (some 47))) 14 2 (some 55))) 13 3 (some 63))) 14 3 (some 71))) 13 4 (some 79))), I, L)) (a := 87) rfl rfl rfl cw_800 rfl rfl (Nat.le_of_ble_eq_true rfl) (cn_800_87 (by omega) hF) ?_
  have hF := cf_800_87 hF
  have g0 := rn_800_87_o g0
  have g1 := rn_800_87_o g1
  refine Rc.goL mt_600 0 (f2 := (61, [.ref 12, .int (4 : Int32)], [], (95, (upR (rn_800_87 (upR (rn_800_79 (upR (rn_800_71 (upR (rn_800_63 (upR (rn_800_55 (upR (rn_800_47 (upR (rn_800_39 (upR (rn_800_31 (upR (rn_800_23 (upR (rn_800_15 (upR (upR R 12 0 (some 13)) 12 1 (some 14))) 13 0 (some 15))) 14 0 (some 23))) 13 1 (some 31))) 14 1 (some 39))) 13 2 (some 47))) 14 2 (some 55))) 13 3 (some 63))) 14 3 (some 71))) 13 4 (some 79))) 14 4 (some 87)), I, L))) (b := true) rfl rfl ?_
  have hF := hF.uR (c := 14) (i := 4) (v := some 87) (by decide)
  have g0 := upR_o (c := 14) (i := 4) (v := some 87) rfl g0
  have g1 := upR_o (c := 14) (i := 4) (v := some 87) rfl g1
  refine Rc.goL mt_600 0 (f2 := (64, [.ref 12, .int ((4 : Int32) + 1)], [], (95, (upR (rn_800_87 (upR (rn_800_79 (upR (rn_800_71 (upR (rn_800_63 (upR (rn_800_55 (upR (rn_800_47 (upR (rn_800_39 (upR (rn_800_31 (upR (rn_800_23 (upR (rn_800_15 (upR (upR R 12 0 (some 13)) 12 1 (some 14))) 13 0 (some 15))) 14 0 (some 23))) 13 1 (some 31))) 14 1 (some 39))) 13 2 (some 47))) 14 2 (some 55))) 13 3 (some 63))) 14 3 (some 71))) 13 4 (some 79))) 14 4 (some 87)), I, L))) (b := true) rfl rfl ?_
  rw [show (4 : Int32) + 1 = 5 from by decide]
  refine Rc.goL mt_600 0 (f2 := (24, [.ref 12, .int (5 : Int32)], [], (95, (upR (rn_800_87 (upR (rn_800_79 (upR (rn_800_71 (upR (rn_800_63 (upR (rn_800_55 (upR (rn_800_47 (upR (rn_800_39 (upR (rn_800_31 (upR (rn_800_23 (upR (rn_800_15 (upR (upR R 12 0 (some 13)) 12 1 (some 14))) 13 0 (some 15))) 14 0 (some 23))) 13 1 (some 31))) 14 1 (some 39))) 13 2 (some 47))) 14 2 (some 55))) 13 3 (some 63))) 14 3 (some 71))) 13 4 (some 79))) 14 4 (some 87)), I, L))) (b := true) rfl rfl ?_
  refine Rc.goL mt_600 2 (f2 := ((if (5 : Int32) < (10 : Int32) then 30 else 67), [.ref 12, .int (5 : Int32)], [], (95, (upR (rn_800_87 (upR (rn_800_79 (upR (rn_800_71 (upR (rn_800_63 (upR (rn_800_55 (upR (rn_800_47 (upR (rn_800_39 (upR (rn_800_31 (upR (rn_800_23 (upR (rn_800_15 (upR (upR R 12 0 (some 13)) 12 1 (some 14))) 13 0 (some 15))) 14 0 (some 23))) 13 1 (some 31))) 14 1 (some 39))) 13 2 (some 47))) 14 2 (some 55))) 13 3 (some 63))) 14 3 (some 71))) 13 4 (some 79))) 14 4 (some 87)), I, L))) (b := true) rfl rfl ?_
  rw [if_pos (by decide)]
  refine Rc.goL mt_600 1 (f2 := (34, [.ref 12, .int (5 : Int32)], [(rv ((upR (rn_800_87 (upR (rn_800_79 (upR (rn_800_71 (upR (rn_800_63 (upR (rn_800_55 (upR (rn_800_47 (upR (rn_800_39 (upR (rn_800_31 (upR (rn_800_23 (upR (rn_800_15 (upR (upR R 12 0 (some 13)) 12 1 (some 14))) 13 0 (some 15))) 14 0 (some 23))) 13 1 (some 31))) 14 1 (some 39))) 13 2 (some 47))) 14 2 (some 55))) 13 3 (some 63))) 14 3 (some 71))) 13 4 (some 79))) 14 4 (some 87)) 12 0))], (95, (upR (rn_800_87 (upR (rn_800_79 (upR (rn_800_71 (upR (rn_800_63 (upR (rn_800_55 (upR (rn_800_47 (upR (rn_800_39 (upR (rn_800_31 (upR (rn_800_23 (upR (rn_800_15 (upR (upR R 12 0 (some 13)) 12 1 (some 14))) 13 0 (some 15))) 14 0 (some 23))) 13 1 (some 31))) 14 1 (some 39))) 13 2 (some 47))) 14 2 (some 55))) 13 3 (some 63))) 14 3 (some 71))) 13 4 (some 79))) 14 4 (some 87)), I, L))) (b := true) rfl rfl ?_
  rw [g0]
  show Rc (d + 1) 600 (34, [.ref 12, .int (5 : Int32)], [.ref 13], (95, (upR (rn_800_87 (upR (rn_800_79 (upR (rn_800_71 (upR (rn_800_63 (upR (rn_800_55 (upR (rn_800_47 (upR (rn_800_39 (upR (rn_800_31 (upR (rn_800_23 (upR (rn_800_15 (upR (upR R 12 0 (some 13)) 12 1 (some 14))) 13 0 (some 15))) 14 0 (some 23))) 13 1 (some 31))) 14 1 (some 39))) 13 2 (some 47))) 14 2 (some 55))) 13 3 (some 63))) 14 3 (some 71))) 13 4 (some 79))) 14 4 (some 87)), I, L)) _
  refine Rc.goL mt_600 0 (f2 := (35, [.ref 12, .int (5 : Int32)], [.int (5 : Int32), .ref 13], (95, (upR (rn_800_87 (upR (rn_800_79 (upR (rn_800_71 (upR (rn_800_63 (upR (rn_800_55 (upR (rn_800_47 (upR (rn_800_39 (upR (rn_800_31 (upR (rn_800_23 (upR (rn_800_15 (upR (upR R 12 0 (some 13)) 12 1 (some 14))) 13 0 (some 15))) 14 0 (some 23))) 13 1 (some 31))) 14 1 (some 39))) 13 2 (some 47))) 14 2 (some 55))) 13 3 (some 63))) 14 3 (some 71))) 13 4 (some 79))) 14 4 (some 87)), I, L))) (b := true) rfl rfl ?_
  refine Rc.goL mt_600 0 (f2 := (38, [.ref 12, .int (5 : Int32)], [.ref 95, .int (5 : Int32), .ref 13], nw (95, (upR (rn_800_87 (upR (rn_800_79 (upR (rn_800_71 (upR (rn_800_63 (upR (rn_800_55 (upR (rn_800_47 (upR (rn_800_39 (upR (rn_800_31 (upR (rn_800_23 (upR (rn_800_15 (upR (upR R 12 0 (some 13)) 12 1 (some 14))) 13 0 (some 15))) 14 0 (some 23))) 13 1 (some 31))) 14 1 (some 39))) 13 2 (some 47))) 14 2 (some 55))) 13 3 (some 63))) 14 3 (some 71))) 13 4 (some 79))) 14 4 (some 87)), I, L))) (b := ((Nat.beq (7 : Nat) 7 && Nat.beq (K0 95) 8 && Nat.beq (Z0 95) (nf 8)) && true)) rfl (by decide +kernel) ?_
  rw [(hF.mk1 (m := 96) rfl (by decide)).1]
  have hF := (hF.mk1 (m := 96) rfl (by decide)).2
  refine Rc.goL mt_600 1 (f2 := (42, [.ref 12, .int (5 : Int32)], [.int (200 : Int32), .ref 95, .ref 95, .int (5 : Int32), .ref 13], (96, (upR (rn_800_87 (upR (rn_800_79 (upR (rn_800_71 (upR (rn_800_63 (upR (rn_800_55 (upR (rn_800_47 (upR (rn_800_39 (upR (rn_800_31 (upR (rn_800_23 (upR (rn_800_15 (upR (upR R 12 0 (some 13)) 12 1 (some 14))) 13 0 (some 15))) 14 0 (some 23))) 13 1 (some 31))) 14 1 (some 39))) 13 2 (some 47))) 14 2 (some 55))) 13 3 (some 63))) 14 3 (some 71))) 13 4 (some 79))) 14 4 (some 87)), I, L))) (b := true) rfl rfl ?_
  refine Rc.callI (i := 18) (mid' := 800) (av := [.int (200 : Int32)]) (rest := [.ref 95, .int (5 : Int32), .ref 13]) (v := none) (M1 := (103, (rn_800_95 (upR (rn_800_87 (upR (rn_800_79 (upR (rn_800_71 (upR (rn_800_63 (upR (rn_800_55 (upR (rn_800_47 (upR (rn_800_39 (upR (rn_800_31 (upR (rn_800_23 (upR (rn_800_15 (upR (upR R 12 0 (some 13)) 12 1 (some 14))) 13 0 (some 15))) 14 0 (some 23))) 13 1 (some 31))) 14 1 (some 39))) 13 2 (some 47))) 14 2 (some 55))) 13 3 (some 63))) 14 3 (some 71))) 13 4 (some 79))) 14 4 (some 87))), I, L)) (a := 95) rfl rfl rfl cw_800 rfl rfl (Nat.le_of_ble_eq_true rfl) (cn_800_95 (by omega) hF) ?_
  have hF := cf_800_95 hF
  have g0 := rn_800_95_o g0
  have g1 := rn_800_95_o g1
  refine Rc.goL mt_600 0 (f2 := (46, [.ref 12, .int (5 : Int32)], [], (103, (upR (rn_800_95 (upR (rn_800_87 (upR (rn_800_79 (upR (rn_800_71 (upR (rn_800_63 (upR (rn_800_55 (upR (rn_800_47 (upR (rn_800_39 (upR (rn_800_31 (upR (rn_800_23 (upR (rn_800_15 (upR (upR R 12 0 (some 13)) 12 1 (some 14))) 13 0 (some 15))) 14 0 (some 23))) 13 1 (some 31))) 14 1 (some 39))) 13 2 (some 47))) 14 2 (some 55))) 13 3 (some 63))) 14 3 (some 71))) 13 4 (some 79))) 14 4 (some 87))) 13 5 (some 95)), I, L))) (b := true) rfl rfl ?_
  have hF := hF.uR (c := 13) (i := 5) (v := some 95) (by decide)
  have g0 := upR_o (c := 13) (i := 5) (v := some 95) rfl g0
  have g1 := upR_o (c := 13) (i := 5) (v := some 95) rfl g1
  refine Rc.goL mt_600 1 (f2 := (50, [.ref 12, .int (5 : Int32)], [(rv ((upR (rn_800_95 (upR (rn_800_87 (upR (rn_800_79 (upR (rn_800_71 (upR (rn_800_63 (upR (rn_800_55 (upR (rn_800_47 (upR (rn_800_39 (upR (rn_800_31 (upR (rn_800_23 (upR (rn_800_15 (upR (upR R 12 0 (some 13)) 12 1 (some 14))) 13 0 (some 15))) 14 0 (some 23))) 13 1 (some 31))) 14 1 (some 39))) 13 2 (some 47))) 14 2 (some 55))) 13 3 (some 63))) 14 3 (some 71))) 13 4 (some 79))) 14 4 (some 87))) 13 5 (some 95)) 12 1))], (103, (upR (rn_800_95 (upR (rn_800_87 (upR (rn_800_79 (upR (rn_800_71 (upR (rn_800_63 (upR (rn_800_55 (upR (rn_800_47 (upR (rn_800_39 (upR (rn_800_31 (upR (rn_800_23 (upR (rn_800_15 (upR (upR R 12 0 (some 13)) 12 1 (some 14))) 13 0 (some 15))) 14 0 (some 23))) 13 1 (some 31))) 14 1 (some 39))) 13 2 (some 47))) 14 2 (some 55))) 13 3 (some 63))) 14 3 (some 71))) 13 4 (some 79))) 14 4 (some 87))) 13 5 (some 95)), I, L))) (b := true) rfl rfl ?_
  rw [g1]
  show Rc (d + 1) 600 (50, [.ref 12, .int (5 : Int32)], [.ref 14], (103, (upR (rn_800_95 (upR (rn_800_87 (upR (rn_800_79 (upR (rn_800_71 (upR (rn_800_63 (upR (rn_800_55 (upR (rn_800_47 (upR (rn_800_39 (upR (rn_800_31 (upR (rn_800_23 (upR (rn_800_15 (upR (upR R 12 0 (some 13)) 12 1 (some 14))) 13 0 (some 15))) 14 0 (some 23))) 13 1 (some 31))) 14 1 (some 39))) 13 2 (some 47))) 14 2 (some 55))) 13 3 (some 63))) 14 3 (some 71))) 13 4 (some 79))) 14 4 (some 87))) 13 5 (some 95)), I, L)) _
  refine Rc.goL mt_600 0 (f2 := (51, [.ref 12, .int (5 : Int32)], [.int (5 : Int32), .ref 14], (103, (upR (rn_800_95 (upR (rn_800_87 (upR (rn_800_79 (upR (rn_800_71 (upR (rn_800_63 (upR (rn_800_55 (upR (rn_800_47 (upR (rn_800_39 (upR (rn_800_31 (upR (rn_800_23 (upR (rn_800_15 (upR (upR R 12 0 (some 13)) 12 1 (some 14))) 13 0 (some 15))) 14 0 (some 23))) 13 1 (some 31))) 14 1 (some 39))) 13 2 (some 47))) 14 2 (some 55))) 13 3 (some 63))) 14 3 (some 71))) 13 4 (some 79))) 14 4 (some 87))) 13 5 (some 95)), I, L))) (b := true) rfl rfl ?_
  refine Rc.goL mt_600 0 (f2 := (54, [.ref 12, .int (5 : Int32)], [.ref 103, .int (5 : Int32), .ref 14], nw (103, (upR (rn_800_95 (upR (rn_800_87 (upR (rn_800_79 (upR (rn_800_71 (upR (rn_800_63 (upR (rn_800_55 (upR (rn_800_47 (upR (rn_800_39 (upR (rn_800_31 (upR (rn_800_23 (upR (rn_800_15 (upR (upR R 12 0 (some 13)) 12 1 (some 14))) 13 0 (some 15))) 14 0 (some 23))) 13 1 (some 31))) 14 1 (some 39))) 13 2 (some 47))) 14 2 (some 55))) 13 3 (some 63))) 14 3 (some 71))) 13 4 (some 79))) 14 4 (some 87))) 13 5 (some 95)), I, L))) (b := ((Nat.beq (7 : Nat) 7 && Nat.beq (K0 103) 8 && Nat.beq (Z0 103) (nf 8)) && true)) rfl (by decide +kernel) ?_
  rw [(hF.mk1 (m := 104) rfl (by decide)).1]
  have hF := (hF.mk1 (m := 104) rfl (by decide)).2
  refine Rc.goL mt_600 1 (f2 := (57, [.ref 12, .int (5 : Int32)], [.int (60 : Int32), .ref 103, .ref 103, .int (5 : Int32), .ref 14], (104, (upR (rn_800_95 (upR (rn_800_87 (upR (rn_800_79 (upR (rn_800_71 (upR (rn_800_63 (upR (rn_800_55 (upR (rn_800_47 (upR (rn_800_39 (upR (rn_800_31 (upR (rn_800_23 (upR (rn_800_15 (upR (upR R 12 0 (some 13)) 12 1 (some 14))) 13 0 (some 15))) 14 0 (some 23))) 13 1 (some 31))) 14 1 (some 39))) 13 2 (some 47))) 14 2 (some 55))) 13 3 (some 63))) 14 3 (some 71))) 13 4 (some 79))) 14 4 (some 87))) 13 5 (some 95)), I, L))) (b := true) rfl rfl ?_
  refine Rc.callI (i := 18) (mid' := 800) (av := [.int (60 : Int32)]) (rest := [.ref 103, .int (5 : Int32), .ref 14]) (v := none) (M1 := (111, (rn_800_103 (upR (rn_800_95 (upR (rn_800_87 (upR (rn_800_79 (upR (rn_800_71 (upR (rn_800_63 (upR (rn_800_55 (upR (rn_800_47 (upR (rn_800_39 (upR (rn_800_31 (upR (rn_800_23 (upR (rn_800_15 (upR (upR R 12 0 (some 13)) 12 1 (some 14))) 13 0 (some 15))) 14 0 (some 23))) 13 1 (some 31))) 14 1 (some 39))) 13 2 (some 47))) 14 2 (some 55))) 13 3 (some 63))) 14 3 (some 71))) 13 4 (some 79))) 14 4 (some 87))) 13 5 (some 95))), I, L)) (a := 103) rfl rfl rfl cw_800 rfl rfl (Nat.le_of_ble_eq_true rfl) (cn_800_103 (by omega) hF) ?_
  have hF := cf_800_103 hF
  have g0 := rn_800_103_o g0
  have g1 := rn_800_103_o g1
  refine Rc.goL mt_600 0 (f2 := (61, [.ref 12, .int (5 : Int32)], [], (111, (upR (rn_800_103 (upR (rn_800_95 (upR (rn_800_87 (upR (rn_800_79 (upR (rn_800_71 (upR (rn_800_63 (upR (rn_800_55 (upR (rn_800_47 (upR (rn_800_39 (upR (rn_800_31 (upR (rn_800_23 (upR (rn_800_15 (upR (upR R 12 0 (some 13)) 12 1 (some 14))) 13 0 (some 15))) 14 0 (some 23))) 13 1 (some 31))) 14 1 (some 39))) 13 2 (some 47))) 14 2 (some 55))) 13 3 (some 63))) 14 3 (some 71))) 13 4 (some 79))) 14 4 (some 87))) 13 5 (some 95))) 14 5 (some 103)), I, L))) (b := true) rfl rfl ?_
  have hF := hF.uR (c := 14) (i := 5) (v := some 103) (by decide)
  have g0 := upR_o (c := 14) (i := 5) (v := some 103) rfl g0
  have g1 := upR_o (c := 14) (i := 5) (v := some 103) rfl g1
  refine Rc.goL mt_600 0 (f2 := (64, [.ref 12, .int ((5 : Int32) + 1)], [], (111, (upR (rn_800_103 (upR (rn_800_95 (upR (rn_800_87 (upR (rn_800_79 (upR (rn_800_71 (upR (rn_800_63 (upR (rn_800_55 (upR (rn_800_47 (upR (rn_800_39 (upR (rn_800_31 (upR (rn_800_23 (upR (rn_800_15 (upR (upR R 12 0 (some 13)) 12 1 (some 14))) 13 0 (some 15))) 14 0 (some 23))) 13 1 (some 31))) 14 1 (some 39))) 13 2 (some 47))) 14 2 (some 55))) 13 3 (some 63))) 14 3 (some 71))) 13 4 (some 79))) 14 4 (some 87))) 13 5 (some 95))) 14 5 (some 103)), I, L))) (b := true) rfl rfl ?_
  rw [show (5 : Int32) + 1 = 6 from by decide]
  refine Rc.goL mt_600 0 (f2 := (24, [.ref 12, .int (6 : Int32)], [], (111, (upR (rn_800_103 (upR (rn_800_95 (upR (rn_800_87 (upR (rn_800_79 (upR (rn_800_71 (upR (rn_800_63 (upR (rn_800_55 (upR (rn_800_47 (upR (rn_800_39 (upR (rn_800_31 (upR (rn_800_23 (upR (rn_800_15 (upR (upR R 12 0 (some 13)) 12 1 (some 14))) 13 0 (some 15))) 14 0 (some 23))) 13 1 (some 31))) 14 1 (some 39))) 13 2 (some 47))) 14 2 (some 55))) 13 3 (some 63))) 14 3 (some 71))) 13 4 (some 79))) 14 4 (some 87))) 13 5 (some 95))) 14 5 (some 103)), I, L))) (b := true) rfl rfl ?_
  refine Rc.goL mt_600 2 (f2 := ((if (6 : Int32) < (10 : Int32) then 30 else 67), [.ref 12, .int (6 : Int32)], [], (111, (upR (rn_800_103 (upR (rn_800_95 (upR (rn_800_87 (upR (rn_800_79 (upR (rn_800_71 (upR (rn_800_63 (upR (rn_800_55 (upR (rn_800_47 (upR (rn_800_39 (upR (rn_800_31 (upR (rn_800_23 (upR (rn_800_15 (upR (upR R 12 0 (some 13)) 12 1 (some 14))) 13 0 (some 15))) 14 0 (some 23))) 13 1 (some 31))) 14 1 (some 39))) 13 2 (some 47))) 14 2 (some 55))) 13 3 (some 63))) 14 3 (some 71))) 13 4 (some 79))) 14 4 (some 87))) 13 5 (some 95))) 14 5 (some 103)), I, L))) (b := true) rfl rfl ?_
  rw [if_pos (by decide)]
  refine Rc.goL mt_600 1 (f2 := (34, [.ref 12, .int (6 : Int32)], [(rv ((upR (rn_800_103 (upR (rn_800_95 (upR (rn_800_87 (upR (rn_800_79 (upR (rn_800_71 (upR (rn_800_63 (upR (rn_800_55 (upR (rn_800_47 (upR (rn_800_39 (upR (rn_800_31 (upR (rn_800_23 (upR (rn_800_15 (upR (upR R 12 0 (some 13)) 12 1 (some 14))) 13 0 (some 15))) 14 0 (some 23))) 13 1 (some 31))) 14 1 (some 39))) 13 2 (some 47))) 14 2 (some 55))) 13 3 (some 63))) 14 3 (some 71))) 13 4 (some 79))) 14 4 (some 87))) 13 5 (some 95))) 14 5 (some 103)) 12 0))], (111, (upR (rn_800_103 (upR (rn_800_95 (upR (rn_800_87 (upR (rn_800_79 (upR (rn_800_71 (upR (rn_800_63 (upR (rn_800_55 (upR (rn_800_47 (upR (rn_800_39 (upR (rn_800_31 (upR (rn_800_23 (upR (rn_800_15 (upR (upR R 12 0 (some 13)) 12 1 (some 14))) 13 0 (some 15))) 14 0 (some 23))) 13 1 (some 31))) 14 1 (some 39))) 13 2 (some 47))) 14 2 (some 55))) 13 3 (some 63))) 14 3 (some 71))) 13 4 (some 79))) 14 4 (some 87))) 13 5 (some 95))) 14 5 (some 103)), I, L))) (b := true) rfl rfl ?_
  rw [g0]
  show Rc (d + 1) 600 (34, [.ref 12, .int (6 : Int32)], [.ref 13], (111, (upR (rn_800_103 (upR (rn_800_95 (upR (rn_800_87 (upR (rn_800_79 (upR (rn_800_71 (upR (rn_800_63 (upR (rn_800_55 (upR (rn_800_47 (upR (rn_800_39 (upR (rn_800_31 (upR (rn_800_23 (upR (rn_800_15 (upR (upR R 12 0 (some 13)) 12 1 (some 14))) 13 0 (some 15))) 14 0 (some 23))) 13 1 (some 31))) 14 1 (some 39))) 13 2 (some 47))) 14 2 (some 55))) 13 3 (some 63))) 14 3 (some 71))) 13 4 (some 79))) 14 4 (some 87))) 13 5 (some 95))) 14 5 (some 103)), I, L)) _
  refine Rc.goL mt_600 0 (f2 := (35, [.ref 12, .int (6 : Int32)], [.int (6 : Int32), .ref 13], (111, (upR (rn_800_103 (upR (rn_800_95 (upR (rn_800_87 (upR (rn_800_79 (upR (rn_800_71 (upR (rn_800_63 (upR (rn_800_55 (upR (rn_800_47 (upR (rn_800_39 (upR (rn_800_31 (upR (rn_800_23 (upR (rn_800_15 (upR (upR R 12 0 (some 13)) 12 1 (some 14))) 13 0 (some 15))) 14 0 (some 23))) 13 1 (some 31))) 14 1 (some 39))) 13 2 (some 47))) 14 2 (some 55))) 13 3 (some 63))) 14 3 (some 71))) 13 4 (some 79))) 14 4 (some 87))) 13 5 (some 95))) 14 5 (some 103)), I, L))) (b := true) rfl rfl ?_
  refine Rc.goL mt_600 0 (f2 := (38, [.ref 12, .int (6 : Int32)], [.ref 111, .int (6 : Int32), .ref 13], nw (111, (upR (rn_800_103 (upR (rn_800_95 (upR (rn_800_87 (upR (rn_800_79 (upR (rn_800_71 (upR (rn_800_63 (upR (rn_800_55 (upR (rn_800_47 (upR (rn_800_39 (upR (rn_800_31 (upR (rn_800_23 (upR (rn_800_15 (upR (upR R 12 0 (some 13)) 12 1 (some 14))) 13 0 (some 15))) 14 0 (some 23))) 13 1 (some 31))) 14 1 (some 39))) 13 2 (some 47))) 14 2 (some 55))) 13 3 (some 63))) 14 3 (some 71))) 13 4 (some 79))) 14 4 (some 87))) 13 5 (some 95))) 14 5 (some 103)), I, L))) (b := ((Nat.beq (7 : Nat) 7 && Nat.beq (K0 111) 8 && Nat.beq (Z0 111) (nf 8)) && true)) rfl (by decide +kernel) ?_
  rw [(hF.mk1 (m := 112) rfl (by decide)).1]
  have hF := (hF.mk1 (m := 112) rfl (by decide)).2
  refine Rc.goL mt_600 1 (f2 := (42, [.ref 12, .int (6 : Int32)], [.int (200 : Int32), .ref 111, .ref 111, .int (6 : Int32), .ref 13], (112, (upR (rn_800_103 (upR (rn_800_95 (upR (rn_800_87 (upR (rn_800_79 (upR (rn_800_71 (upR (rn_800_63 (upR (rn_800_55 (upR (rn_800_47 (upR (rn_800_39 (upR (rn_800_31 (upR (rn_800_23 (upR (rn_800_15 (upR (upR R 12 0 (some 13)) 12 1 (some 14))) 13 0 (some 15))) 14 0 (some 23))) 13 1 (some 31))) 14 1 (some 39))) 13 2 (some 47))) 14 2 (some 55))) 13 3 (some 63))) 14 3 (some 71))) 13 4 (some 79))) 14 4 (some 87))) 13 5 (some 95))) 14 5 (some 103)), I, L))) (b := true) rfl rfl ?_
  refine Rc.callI (i := 18) (mid' := 800) (av := [.int (200 : Int32)]) (rest := [.ref 111, .int (6 : Int32), .ref 13]) (v := none) (M1 := (119, (rn_800_111 (upR (rn_800_103 (upR (rn_800_95 (upR (rn_800_87 (upR (rn_800_79 (upR (rn_800_71 (upR (rn_800_63 (upR (rn_800_55 (upR (rn_800_47 (upR (rn_800_39 (upR (rn_800_31 (upR (rn_800_23 (upR (rn_800_15 (upR (upR R 12 0 (some 13)) 12 1 (some 14))) 13 0 (some 15))) 14 0 (some 23))) 13 1 (some 31))) 14 1 (some 39))) 13 2 (some 47))) 14 2 (some 55))) 13 3 (some 63))) 14 3 (some 71))) 13 4 (some 79))) 14 4 (some 87))) 13 5 (some 95))) 14 5 (some 103))), I, L)) (a := 111) rfl rfl rfl cw_800 rfl rfl (Nat.le_of_ble_eq_true rfl) (cn_800_111 (by omega) hF) ?_
  have hF := cf_800_111 hF
  have g0 := rn_800_111_o g0
  have g1 := rn_800_111_o g1
  refine Rc.goL mt_600 0 (f2 := (46, [.ref 12, .int (6 : Int32)], [], (119, (upR (rn_800_111 (upR (rn_800_103 (upR (rn_800_95 (upR (rn_800_87 (upR (rn_800_79 (upR (rn_800_71 (upR (rn_800_63 (upR (rn_800_55 (upR (rn_800_47 (upR (rn_800_39 (upR (rn_800_31 (upR (rn_800_23 (upR (rn_800_15 (upR (upR R 12 0 (some 13)) 12 1 (some 14))) 13 0 (some 15))) 14 0 (some 23))) 13 1 (some 31))) 14 1 (some 39))) 13 2 (some 47))) 14 2 (some 55))) 13 3 (some 63))) 14 3 (some 71))) 13 4 (some 79))) 14 4 (some 87))) 13 5 (some 95))) 14 5 (some 103))) 13 6 (some 111)), I, L))) (b := true) rfl rfl ?_
  have hF := hF.uR (c := 13) (i := 6) (v := some 111) (by decide)
  have g0 := upR_o (c := 13) (i := 6) (v := some 111) rfl g0
  have g1 := upR_o (c := 13) (i := 6) (v := some 111) rfl g1
  refine Rc.goL mt_600 1 (f2 := (50, [.ref 12, .int (6 : Int32)], [(rv ((upR (rn_800_111 (upR (rn_800_103 (upR (rn_800_95 (upR (rn_800_87 (upR (rn_800_79 (upR (rn_800_71 (upR (rn_800_63 (upR (rn_800_55 (upR (rn_800_47 (upR (rn_800_39 (upR (rn_800_31 (upR (rn_800_23 (upR (rn_800_15 (upR (upR R 12 0 (some 13)) 12 1 (some 14))) 13 0 (some 15))) 14 0 (some 23))) 13 1 (some 31))) 14 1 (some 39))) 13 2 (some 47))) 14 2 (some 55))) 13 3 (some 63))) 14 3 (some 71))) 13 4 (some 79))) 14 4 (some 87))) 13 5 (some 95))) 14 5 (some 103))) 13 6 (some 111)) 12 1))], (119, (upR (rn_800_111 (upR (rn_800_103 (upR (rn_800_95 (upR (rn_800_87 (upR (rn_800_79 (upR (rn_800_71 (upR (rn_800_63 (upR (rn_800_55 (upR (rn_800_47 (upR (rn_800_39 (upR (rn_800_31 (upR (rn_800_23 (upR (rn_800_15 (upR (upR R 12 0 (some 13)) 12 1 (some 14))) 13 0 (some 15))) 14 0 (some 23))) 13 1 (some 31))) 14 1 (some 39))) 13 2 (some 47))) 14 2 (some 55))) 13 3 (some 63))) 14 3 (some 71))) 13 4 (some 79))) 14 4 (some 87))) 13 5 (some 95))) 14 5 (some 103))) 13 6 (some 111)), I, L))) (b := true) rfl rfl ?_
  rw [g1]
  show Rc (d + 1) 600 (50, [.ref 12, .int (6 : Int32)], [.ref 14], (119, (upR (rn_800_111 (upR (rn_800_103 (upR (rn_800_95 (upR (rn_800_87 (upR (rn_800_79 (upR (rn_800_71 (upR (rn_800_63 (upR (rn_800_55 (upR (rn_800_47 (upR (rn_800_39 (upR (rn_800_31 (upR (rn_800_23 (upR (rn_800_15 (upR (upR R 12 0 (some 13)) 12 1 (some 14))) 13 0 (some 15))) 14 0 (some 23))) 13 1 (some 31))) 14 1 (some 39))) 13 2 (some 47))) 14 2 (some 55))) 13 3 (some 63))) 14 3 (some 71))) 13 4 (some 79))) 14 4 (some 87))) 13 5 (some 95))) 14 5 (some 103))) 13 6 (some 111)), I, L)) _
  refine Rc.goL mt_600 0 (f2 := (51, [.ref 12, .int (6 : Int32)], [.int (6 : Int32), .ref 14], (119, (upR (rn_800_111 (upR (rn_800_103 (upR (rn_800_95 (upR (rn_800_87 (upR (rn_800_79 (upR (rn_800_71 (upR (rn_800_63 (upR (rn_800_55 (upR (rn_800_47 (upR (rn_800_39 (upR (rn_800_31 (upR (rn_800_23 (upR (rn_800_15 (upR (upR R 12 0 (some 13)) 12 1 (some 14))) 13 0 (some 15))) 14 0 (some 23))) 13 1 (some 31))) 14 1 (some 39))) 13 2 (some 47))) 14 2 (some 55))) 13 3 (some 63))) 14 3 (some 71))) 13 4 (some 79))) 14 4 (some 87))) 13 5 (some 95))) 14 5 (some 103))) 13 6 (some 111)), I, L))) (b := true) rfl rfl ?_
  refine Rc.goL mt_600 0 (f2 := (54, [.ref 12, .int (6 : Int32)], [.ref 119, .int (6 : Int32), .ref 14], nw (119, (upR (rn_800_111 (upR (rn_800_103 (upR (rn_800_95 (upR (rn_800_87 (upR (rn_800_79 (upR (rn_800_71 (upR (rn_800_63 (upR (rn_800_55 (upR (rn_800_47 (upR (rn_800_39 (upR (rn_800_31 (upR (rn_800_23 (upR (rn_800_15 (upR (upR R 12 0 (some 13)) 12 1 (some 14))) 13 0 (some 15))) 14 0 (some 23))) 13 1 (some 31))) 14 1 (some 39))) 13 2 (some 47))) 14 2 (some 55))) 13 3 (some 63))) 14 3 (some 71))) 13 4 (some 79))) 14 4 (some 87))) 13 5 (some 95))) 14 5 (some 103))) 13 6 (some 111)), I, L))) (b := ((Nat.beq (7 : Nat) 7 && Nat.beq (K0 119) 8 && Nat.beq (Z0 119) (nf 8)) && true)) rfl (by decide +kernel) ?_
  rw [(hF.mk1 (m := 120) rfl (by decide)).1]
  have hF := (hF.mk1 (m := 120) rfl (by decide)).2
  refine Rc.goL mt_600 1 (f2 := (57, [.ref 12, .int (6 : Int32)], [.int (60 : Int32), .ref 119, .ref 119, .int (6 : Int32), .ref 14], (120, (upR (rn_800_111 (upR (rn_800_103 (upR (rn_800_95 (upR (rn_800_87 (upR (rn_800_79 (upR (rn_800_71 (upR (rn_800_63 (upR (rn_800_55 (upR (rn_800_47 (upR (rn_800_39 (upR (rn_800_31 (upR (rn_800_23 (upR (rn_800_15 (upR (upR R 12 0 (some 13)) 12 1 (some 14))) 13 0 (some 15))) 14 0 (some 23))) 13 1 (some 31))) 14 1 (some 39))) 13 2 (some 47))) 14 2 (some 55))) 13 3 (some 63))) 14 3 (some 71))) 13 4 (some 79))) 14 4 (some 87))) 13 5 (some 95))) 14 5 (some 103))) 13 6 (some 111)), I, L))) (b := true) rfl rfl ?_
  refine Rc.callI (i := 18) (mid' := 800) (av := [.int (60 : Int32)]) (rest := [.ref 119, .int (6 : Int32), .ref 14]) (v := none) (M1 := (127, (rn_800_119 (upR (rn_800_111 (upR (rn_800_103 (upR (rn_800_95 (upR (rn_800_87 (upR (rn_800_79 (upR (rn_800_71 (upR (rn_800_63 (upR (rn_800_55 (upR (rn_800_47 (upR (rn_800_39 (upR (rn_800_31 (upR (rn_800_23 (upR (rn_800_15 (upR (upR R 12 0 (some 13)) 12 1 (some 14))) 13 0 (some 15))) 14 0 (some 23))) 13 1 (some 31))) 14 1 (some 39))) 13 2 (some 47))) 14 2 (some 55))) 13 3 (some 63))) 14 3 (some 71))) 13 4 (some 79))) 14 4 (some 87))) 13 5 (some 95))) 14 5 (some 103))) 13 6 (some 111))), I, L)) (a := 119) rfl rfl rfl cw_800 rfl rfl (Nat.le_of_ble_eq_true rfl) (cn_800_119 (by omega) hF) ?_
  have hF := cf_800_119 hF
  have g0 := rn_800_119_o g0
  have g1 := rn_800_119_o g1
  refine Rc.goL mt_600 0 (f2 := (61, [.ref 12, .int (6 : Int32)], [], (127, (upR (rn_800_119 (upR (rn_800_111 (upR (rn_800_103 (upR (rn_800_95 (upR (rn_800_87 (upR (rn_800_79 (upR (rn_800_71 (upR (rn_800_63 (upR (rn_800_55 (upR (rn_800_47 (upR (rn_800_39 (upR (rn_800_31 (upR (rn_800_23 (upR (rn_800_15 (upR (upR R 12 0 (some 13)) 12 1 (some 14))) 13 0 (some 15))) 14 0 (some 23))) 13 1 (some 31))) 14 1 (some 39))) 13 2 (some 47))) 14 2 (some 55))) 13 3 (some 63))) 14 3 (some 71))) 13 4 (some 79))) 14 4 (some 87))) 13 5 (some 95))) 14 5 (some 103))) 13 6 (some 111))) 14 6 (some 119)), I, L))) (b := true) rfl rfl ?_
  have hF := hF.uR (c := 14) (i := 6) (v := some 119) (by decide)
  have g0 := upR_o (c := 14) (i := 6) (v := some 119) rfl g0
  have g1 := upR_o (c := 14) (i := 6) (v := some 119) rfl g1
  refine Rc.goL mt_600 0 (f2 := (64, [.ref 12, .int ((6 : Int32) + 1)], [], (127, (upR (rn_800_119 (upR (rn_800_111 (upR (rn_800_103 (upR (rn_800_95 (upR (rn_800_87 (upR (rn_800_79 (upR (rn_800_71 (upR (rn_800_63 (upR (rn_800_55 (upR (rn_800_47 (upR (rn_800_39 (upR (rn_800_31 (upR (rn_800_23 (upR (rn_800_15 (upR (upR R 12 0 (some 13)) 12 1 (some 14))) 13 0 (some 15))) 14 0 (some 23))) 13 1 (some 31))) 14 1 (some 39))) 13 2 (some 47))) 14 2 (some 55))) 13 3 (some 63))) 14 3 (some 71))) 13 4 (some 79))) 14 4 (some 87))) 13 5 (some 95))) 14 5 (some 103))) 13 6 (some 111))) 14 6 (some 119)), I, L))) (b := true) rfl rfl ?_
  rw [show (6 : Int32) + 1 = 7 from by decide]
  refine Rc.goL mt_600 0 (f2 := (24, [.ref 12, .int (7 : Int32)], [], (127, (upR (rn_800_119 (upR (rn_800_111 (upR (rn_800_103 (upR (rn_800_95 (upR (rn_800_87 (upR (rn_800_79 (upR (rn_800_71 (upR (rn_800_63 (upR (rn_800_55 (upR (rn_800_47 (upR (rn_800_39 (upR (rn_800_31 (upR (rn_800_23 (upR (rn_800_15 (upR (upR R 12 0 (some 13)) 12 1 (some 14))) 13 0 (some 15))) 14 0 (some 23))) 13 1 (some 31))) 14 1 (some 39))) 13 2 (some 47))) 14 2 (some 55))) 13 3 (some 63))) 14 3 (some 71))) 13 4 (some 79))) 14 4 (some 87))) 13 5 (some 95))) 14 5 (some 103))) 13 6 (some 111))) 14 6 (some 119)), I, L))) (b := true) rfl rfl ?_
  refine Rc.goL mt_600 2 (f2 := ((if (7 : Int32) < (10 : Int32) then 30 else 67), [.ref 12, .int (7 : Int32)], [], (127, (upR (rn_800_119 (upR (rn_800_111 (upR (rn_800_103 (upR (rn_800_95 (upR (rn_800_87 (upR (rn_800_79 (upR (rn_800_71 (upR (rn_800_63 (upR (rn_800_55 (upR (rn_800_47 (upR (rn_800_39 (upR (rn_800_31 (upR (rn_800_23 (upR (rn_800_15 (upR (upR R 12 0 (some 13)) 12 1 (some 14))) 13 0 (some 15))) 14 0 (some 23))) 13 1 (some 31))) 14 1 (some 39))) 13 2 (some 47))) 14 2 (some 55))) 13 3 (some 63))) 14 3 (some 71))) 13 4 (some 79))) 14 4 (some 87))) 13 5 (some 95))) 14 5 (some 103))) 13 6 (some 111))) 14 6 (some 119)), I, L))) (b := true) rfl rfl ?_
  rw [if_pos (by decide)]
  refine Rc.goL mt_600 1 (f2 := (34, [.ref 12, .int (7 : Int32)], [(rv ((upR (rn_800_119 (upR (rn_800_111 (upR (rn_800_103 (upR (rn_800_95 (upR (rn_800_87 (upR (rn_800_79 (upR (rn_800_71 (upR (rn_800_63 (upR (rn_800_55 (upR (rn_800_47 (upR (rn_800_39 (upR (rn_800_31 (upR (rn_800_23 (upR (rn_800_15 (upR (upR R 12 0 (some 13)) 12 1 (some 14))) 13 0 (some 15))) 14 0 (some 23))) 13 1 (some 31))) 14 1 (some 39))) 13 2 (some 47))) 14 2 (some 55))) 13 3 (some 63))) 14 3 (some 71))) 13 4 (some 79))) 14 4 (some 87))) 13 5 (some 95))) 14 5 (some 103))) 13 6 (some 111))) 14 6 (some 119)) 12 0))], (127, (upR (rn_800_119 (upR (rn_800_111 (upR (rn_800_103 (upR (rn_800_95 (upR (rn_800_87 (upR (rn_800_79 (upR (rn_800_71 (upR (rn_800_63 (upR (rn_800_55 (upR (rn_800_47 (upR (rn_800_39 (upR (rn_800_31 (upR (rn_800_23 (upR (rn_800_15 (upR (upR R 12 0 (some 13)) 12 1 (some 14))) 13 0 (some 15))) 14 0 (some 23))) 13 1 (some 31))) 14 1 (some 39))) 13 2 (some 47))) 14 2 (some 55))) 13 3 (some 63))) 14 3 (some 71))) 13 4 (some 79))) 14 4 (some 87))) 13 5 (some 95))) 14 5 (some 103))) 13 6 (some 111))) 14 6 (some 119)), I, L))) (b := true) rfl rfl ?_
  rw [g0]
  show Rc (d + 1) 600 (34, [.ref 12, .int (7 : Int32)], [.ref 13], (127, (upR (rn_800_119 (upR (rn_800_111 (upR (rn_800_103 (upR (rn_800_95 (upR (rn_800_87 (upR (rn_800_79 (upR (rn_800_71 (upR (rn_800_63 (upR (rn_800_55 (upR (rn_800_47 (upR (rn_800_39 (upR (rn_800_31 (upR (rn_800_23 (upR (rn_800_15 (upR (upR R 12 0 (some 13)) 12 1 (some 14))) 13 0 (some 15))) 14 0 (some 23))) 13 1 (some 31))) 14 1 (some 39))) 13 2 (some 47))) 14 2 (some 55))) 13 3 (some 63))) 14 3 (some 71))) 13 4 (some 79))) 14 4 (some 87))) 13 5 (some 95))) 14 5 (some 103))) 13 6 (some 111))) 14 6 (some 119)), I, L)) _
  refine Rc.goL mt_600 0 (f2 := (35, [.ref 12, .int (7 : Int32)], [.int (7 : Int32), .ref 13], (127, (upR (rn_800_119 (upR (rn_800_111 (upR (rn_800_103 (upR (rn_800_95 (upR (rn_800_87 (upR (rn_800_79 (upR (rn_800_71 (upR (rn_800_63 (upR (rn_800_55 (upR (rn_800_47 (upR (rn_800_39 (upR (rn_800_31 (upR (rn_800_23 (upR (rn_800_15 (upR (upR R 12 0 (some 13)) 12 1 (some 14))) 13 0 (some 15))) 14 0 (some 23))) 13 1 (some 31))) 14 1 (some 39))) 13 2 (some 47))) 14 2 (some 55))) 13 3 (some 63))) 14 3 (some 71))) 13 4 (some 79))) 14 4 (some 87))) 13 5 (some 95))) 14 5 (some 103))) 13 6 (some 111))) 14 6 (some 119)), I, L))) (b := true) rfl rfl ?_
  refine Rc.goL mt_600 0 (f2 := (38, [.ref 12, .int (7 : Int32)], [.ref 127, .int (7 : Int32), .ref 13], nw (127, (upR (rn_800_119 (upR (rn_800_111 (upR (rn_800_103 (upR (rn_800_95 (upR (rn_800_87 (upR (rn_800_79 (upR (rn_800_71 (upR (rn_800_63 (upR (rn_800_55 (upR (rn_800_47 (upR (rn_800_39 (upR (rn_800_31 (upR (rn_800_23 (upR (rn_800_15 (upR (upR R 12 0 (some 13)) 12 1 (some 14))) 13 0 (some 15))) 14 0 (some 23))) 13 1 (some 31))) 14 1 (some 39))) 13 2 (some 47))) 14 2 (some 55))) 13 3 (some 63))) 14 3 (some 71))) 13 4 (some 79))) 14 4 (some 87))) 13 5 (some 95))) 14 5 (some 103))) 13 6 (some 111))) 14 6 (some 119)), I, L))) (b := ((Nat.beq (7 : Nat) 7 && Nat.beq (K0 127) 8 && Nat.beq (Z0 127) (nf 8)) && true)) rfl (by decide +kernel) ?_
  rw [(hF.mk1 (m := 128) rfl (by decide)).1]
  have hF := (hF.mk1 (m := 128) rfl (by decide)).2
  refine Rc.goL mt_600 1 (f2 := (42, [.ref 12, .int (7 : Int32)], [.int (200 : Int32), .ref 127, .ref 127, .int (7 : Int32), .ref 13], (128, (upR (rn_800_119 (upR (rn_800_111 (upR (rn_800_103 (upR (rn_800_95 (upR (rn_800_87 (upR (rn_800_79 (upR (rn_800_71 (upR (rn_800_63 (upR (rn_800_55 (upR (rn_800_47 (upR (rn_800_39 (upR (rn_800_31 (upR (rn_800_23 (upR (rn_800_15 (upR (upR R 12 0 (some 13)) 12 1 (some 14))) 13 0 (some 15))) 14 0 (some 23))) 13 1 (some 31))) 14 1 (some 39))) 13 2 (some 47))) 14 2 (some 55))) 13 3 (some 63))) 14 3 (some 71))) 13 4 (some 79))) 14 4 (some 87))) 13 5 (some 95))) 14 5 (some 103))) 13 6 (some 111))) 14 6 (some 119)), I, L))) (b := true) rfl rfl ?_
  refine Rc.callI (i := 18) (mid' := 800) (av := [.int (200 : Int32)]) (rest := [.ref 127, .int (7 : Int32), .ref 13]) (v := none) (M1 := (135, (rn_800_127 (upR (rn_800_119 (upR (rn_800_111 (upR (rn_800_103 (upR (rn_800_95 (upR (rn_800_87 (upR (rn_800_79 (upR (rn_800_71 (upR (rn_800_63 (upR (rn_800_55 (upR (rn_800_47 (upR (rn_800_39 (upR (rn_800_31 (upR (rn_800_23 (upR (rn_800_15 (upR (upR R 12 0 (some 13)) 12 1 (some 14))) 13 0 (some 15))) 14 0 (some 23))) 13 1 (some 31))) 14 1 (some 39))) 13 2 (some 47))) 14 2 (some 55))) 13 3 (some 63))) 14 3 (some 71))) 13 4 (some 79))) 14 4 (some 87))) 13 5 (some 95))) 14 5 (some 103))) 13 6 (some 111))) 14 6 (some 119))), I, L)) (a := 127) rfl rfl rfl cw_800 rfl rfl (Nat.le_of_ble_eq_true rfl) (cn_800_127 (by omega) hF) ?_
  have hF := cf_800_127 hF
  have g0 := rn_800_127_o g0
  have g1 := rn_800_127_o g1
  refine Rc.goL mt_600 0 (f2 := (46, [.ref 12, .int (7 : Int32)], [], (135, (upR (rn_800_127 (upR (rn_800_119 (upR (rn_800_111 (upR (rn_800_103 (upR (rn_800_95 (upR (rn_800_87 (upR (rn_800_79 (upR (rn_800_71 (upR (rn_800_63 (upR (rn_800_55 (upR (rn_800_47 (upR (rn_800_39 (upR (rn_800_31 (upR (rn_800_23 (upR (rn_800_15 (upR (upR R 12 0 (some 13)) 12 1 (some 14))) 13 0 (some 15))) 14 0 (some 23))) 13 1 (some 31))) 14 1 (some 39))) 13 2 (some 47))) 14 2 (some 55))) 13 3 (some 63))) 14 3 (some 71))) 13 4 (some 79))) 14 4 (some 87))) 13 5 (some 95))) 14 5 (some 103))) 13 6 (some 111))) 14 6 (some 119))) 13 7 (some 127)), I, L))) (b := true) rfl rfl ?_
  have hF := hF.uR (c := 13) (i := 7) (v := some 127) (by decide)
  have g0 := upR_o (c := 13) (i := 7) (v := some 127) rfl g0
  have g1 := upR_o (c := 13) (i := 7) (v := some 127) rfl g1
  refine Rc.goL mt_600 1 (f2 := (50, [.ref 12, .int (7 : Int32)], [(rv ((upR (rn_800_127 (upR (rn_800_119 (upR (rn_800_111 (upR (rn_800_103 (upR (rn_800_95 (upR (rn_800_87 (upR (rn_800_79 (upR (rn_800_71 (upR (rn_800_63 (upR (rn_800_55 (upR (rn_800_47 (upR (rn_800_39 (upR (rn_800_31 (upR (rn_800_23 (upR (rn_800_15 (upR (upR R 12 0 (some 13)) 12 1 (some 14))) 13 0 (some 15))) 14 0 (some 23))) 13 1 (some 31))) 14 1 (some 39))) 13 2 (some 47))) 14 2 (some 55))) 13 3 (some 63))) 14 3 (some 71))) 13 4 (some 79))) 14 4 (some 87))) 13 5 (some 95))) 14 5 (some 103))) 13 6 (some 111))) 14 6 (some 119))) 13 7 (some 127)) 12 1))], (135, (upR (rn_800_127 (upR (rn_800_119 (upR (rn_800_111 (upR (rn_800_103 (upR (rn_800_95 (upR (rn_800_87 (upR (rn_800_79 (upR (rn_800_71 (upR (rn_800_63 (upR (rn_800_55 (upR (rn_800_47 (upR (rn_800_39 (upR (rn_800_31 (upR (rn_800_23 (upR (rn_800_15 (upR (upR R 12 0 (some 13)) 12 1 (some 14))) 13 0 (some 15))) 14 0 (some 23))) 13 1 (some 31))) 14 1 (some 39))) 13 2 (some 47))) 14 2 (some 55))) 13 3 (some 63))) 14 3 (some 71))) 13 4 (some 79))) 14 4 (some 87))) 13 5 (some 95))) 14 5 (some 103))) 13 6 (some 111))) 14 6 (some 119))) 13 7 (some 127)), I, L))) (b := true) rfl rfl ?_
  rw [g1]
  show Rc (d + 1) 600 (50, [.ref 12, .int (7 : Int32)], [.ref 14], (135, (upR (rn_800_127 (upR (rn_800_119 (upR (rn_800_111 (upR (rn_800_103 (upR (rn_800_95 (upR (rn_800_87 (upR (rn_800_79 (upR (rn_800_71 (upR (rn_800_63 (upR (rn_800_55 (upR (rn_800_47 (upR (rn_800_39 (upR (rn_800_31 (upR (rn_800_23 (upR (rn_800_15 (upR (upR R 12 0 (some 13)) 12 1 (some 14))) 13 0 (some 15))) 14 0 (some 23))) 13 1 (some 31))) 14 1 (some 39))) 13 2 (some 47))) 14 2 (some 55))) 13 3 (some 63))) 14 3 (some 71))) 13 4 (some 79))) 14 4 (some 87))) 13 5 (some 95))) 14 5 (some 103))) 13 6 (some 111))) 14 6 (some 119))) 13 7 (some 127)), I, L)) _
  refine Rc.goL mt_600 0 (f2 := (51, [.ref 12, .int (7 : Int32)], [.int (7 : Int32), .ref 14], (135, (upR (rn_800_127 (upR (rn_800_119 (upR (rn_800_111 (upR (rn_800_103 (upR (rn_800_95 (upR (rn_800_87 (upR (rn_800_79 (upR (rn_800_71 (upR (rn_800_63 (upR (rn_800_55 (upR (rn_800_47 (upR (rn_800_39 (upR (rn_800_31 (upR (rn_800_23 (upR (rn_800_15 (upR (upR R 12 0 (some 13)) 12 1 (some 14))) 13 0 (some 15))) 14 0 (some 23))) 13 1 (some 31))) 14 1 (some 39))) 13 2 (some 47))) 14 2 (some 55))) 13 3 (some 63))) 14 3 (some 71))) 13 4 (some 79))) 14 4 (some 87))) 13 5 (some 95))) 14 5 (some 103))) 13 6 (some 111))) 14 6 (some 119))) 13 7 (some 127)), I, L))) (b := true) rfl rfl ?_
  refine Rc.goL mt_600 0 (f2 := (54, [.ref 12, .int (7 : Int32)], [.ref 135, .int (7 : Int32), .ref 14], nw (135, (upR (rn_800_127 (upR (rn_800_119 (upR (rn_800_111 (upR (rn_800_103 (upR (rn_800_95 (upR (rn_800_87 (upR (rn_800_79 (upR (rn_800_71 (upR (rn_800_63 (upR (rn_800_55 (upR (rn_800_47 (upR (rn_800_39 (upR (rn_800_31 (upR (rn_800_23 (upR (rn_800_15 (upR (upR R 12 0 (some 13)) 12 1 (some 14))) 13 0 (some 15))) 14 0 (some 23))) 13 1 (some 31))) 14 1 (some 39))) 13 2 (some 47))) 14 2 (some 55))) 13 3 (some 63))) 14 3 (some 71))) 13 4 (some 79))) 14 4 (some 87))) 13 5 (some 95))) 14 5 (some 103))) 13 6 (some 111))) 14 6 (some 119))) 13 7 (some 127)), I, L))) (b := ((Nat.beq (7 : Nat) 7 && Nat.beq (K0 135) 8 && Nat.beq (Z0 135) (nf 8)) && true)) rfl (by decide +kernel) ?_
  rw [(hF.mk1 (m := 136) rfl (by decide)).1]
  have hF := (hF.mk1 (m := 136) rfl (by decide)).2
  refine Rc.goL mt_600 1 (f2 := (57, [.ref 12, .int (7 : Int32)], [.int (60 : Int32), .ref 135, .ref 135, .int (7 : Int32), .ref 14], (136, (upR (rn_800_127 (upR (rn_800_119 (upR (rn_800_111 (upR (rn_800_103 (upR (rn_800_95 (upR (rn_800_87 (upR (rn_800_79 (upR (rn_800_71 (upR (rn_800_63 (upR (rn_800_55 (upR (rn_800_47 (upR (rn_800_39 (upR (rn_800_31 (upR (rn_800_23 (upR (rn_800_15 (upR (upR R 12 0 (some 13)) 12 1 (some 14))) 13 0 (some 15))) 14 0 (some 23))) 13 1 (some 31))) 14 1 (some 39))) 13 2 (some 47))) 14 2 (some 55))) 13 3 (some 63))) 14 3 (some 71))) 13 4 (some 79))) 14 4 (some 87))) 13 5 (some 95))) 14 5 (some 103))) 13 6 (some 111))) 14 6 (some 119))) 13 7 (some 127)), I, L))) (b := true) rfl rfl ?_
  refine Rc.callI (i := 18) (mid' := 800) (av := [.int (60 : Int32)]) (rest := [.ref 135, .int (7 : Int32), .ref 14]) (v := none) (M1 := (143, (rn_800_135 (upR (rn_800_127 (upR (rn_800_119 (upR (rn_800_111 (upR (rn_800_103 (upR (rn_800_95 (upR (rn_800_87 (upR (rn_800_79 (upR (rn_800_71 (upR (rn_800_63 (upR (rn_800_55 (upR (rn_800_47 (upR (rn_800_39 (upR (rn_800_31 (upR (rn_800_23 (upR (rn_800_15 (upR (upR R 12 0 (some 13)) 12 1 (some 14))) 13 0 (some 15))) 14 0 (some 23))) 13 1 (some 31))) 14 1 (some 39))) 13 2 (some 47))) 14 2 (some 55))) 13 3 (some 63))) 14 3 (some 71))) 13 4 (some 79))) 14 4 (some 87))) 13 5 (some 95))) 14 5 (some 103))) 13 6 (some 111))) 14 6 (some 119))) 13 7 (some 127))), I, L)) (a := 135) rfl rfl rfl cw_800 rfl rfl (Nat.le_of_ble_eq_true rfl) (cn_800_135 (by omega) hF) ?_
  have hF := cf_800_135 hF
  have g0 := rn_800_135_o g0
  have g1 := rn_800_135_o g1
  refine Rc.goL mt_600 0 (f2 := (61, [.ref 12, .int (7 : Int32)], [], (143, (upR (rn_800_135 (upR (rn_800_127 (upR (rn_800_119 (upR (rn_800_111 (upR (rn_800_103 (upR (rn_800_95 (upR (rn_800_87 (upR (rn_800_79 (upR (rn_800_71 (upR (rn_800_63 (upR (rn_800_55 (upR (rn_800_47 (upR (rn_800_39 (upR (rn_800_31 (upR (rn_800_23 (upR (rn_800_15 (upR (upR R 12 0 (some 13)) 12 1 (some 14))) 13 0 (some 15))) 14 0 (some 23))) 13 1 (some 31))) 14 1 (some 39))) 13 2 (some 47))) 14 2 (some 55))) 13 3 (some 63))) 14 3 (some 71))) 13 4 (some 79))) 14 4 (some 87))) 13 5 (some 95))) 14 5 (some 103))) 13 6 (some 111))) 14 6 (some 119))) 13 7 (some 127))) 14 7 (some 135)), I, L))) (b := true) rfl rfl ?_
  have hF := hF.uR (c := 14) (i := 7) (v := some 135) (by decide)
  have g0 := upR_o (c := 14) (i := 7) (v := some 135) rfl g0
  have g1 := upR_o (c := 14) (i := 7) (v := some 135) rfl g1
  refine Rc.goL mt_600 0 (f2 := (64, [.ref 12, .int ((7 : Int32) + 1)], [], (143, (upR (rn_800_135 (upR (rn_800_127 (upR (rn_800_119 (upR (rn_800_111 (upR (rn_800_103 (upR (rn_800_95 (upR (rn_800_87 (upR (rn_800_79 (upR (rn_800_71 (upR (rn_800_63 (upR (rn_800_55 (upR (rn_800_47 (upR (rn_800_39 (upR (rn_800_31 (upR (rn_800_23 (upR (rn_800_15 (upR (upR R 12 0 (some 13)) 12 1 (some 14))) 13 0 (some 15))) 14 0 (some 23))) 13 1 (some 31))) 14 1 (some 39))) 13 2 (some 47))) 14 2 (some 55))) 13 3 (some 63))) 14 3 (some 71))) 13 4 (some 79))) 14 4 (some 87))) 13 5 (some 95))) 14 5 (some 103))) 13 6 (some 111))) 14 6 (some 119))) 13 7 (some 127))) 14 7 (some 135)), I, L))) (b := true) rfl rfl ?_
  rw [show (7 : Int32) + 1 = 8 from by decide]
  refine Rc.goL mt_600 0 (f2 := (24, [.ref 12, .int (8 : Int32)], [], (143, (upR (rn_800_135 (upR (rn_800_127 (upR (rn_800_119 (upR (rn_800_111 (upR (rn_800_103 (upR (rn_800_95 (upR (rn_800_87 (upR (rn_800_79 (upR (rn_800_71 (upR (rn_800_63 (upR (rn_800_55 (upR (rn_800_47 (upR (rn_800_39 (upR (rn_800_31 (upR (rn_800_23 (upR (rn_800_15 (upR (upR R 12 0 (some 13)) 12 1 (some 14))) 13 0 (some 15))) 14 0 (some 23))) 13 1 (some 31))) 14 1 (some 39))) 13 2 (some 47))) 14 2 (some 55))) 13 3 (some 63))) 14 3 (some 71))) 13 4 (some 79))) 14 4 (some 87))) 13 5 (some 95))) 14 5 (some 103))) 13 6 (some 111))) 14 6 (some 119))) 13 7 (some 127))) 14 7 (some 135)), I, L))) (b := true) rfl rfl ?_
  refine Rc.goL mt_600 2 (f2 := ((if (8 : Int32) < (10 : Int32) then 30 else 67), [.ref 12, .int (8 : Int32)], [], (143, (upR (rn_800_135 (upR (rn_800_127 (upR (rn_800_119 (upR (rn_800_111 (upR (rn_800_103 (upR (rn_800_95 (upR (rn_800_87 (upR (rn_800_79 (upR (rn_800_71 (upR (rn_800_63 (upR (rn_800_55 (upR (rn_800_47 (upR (rn_800_39 (upR (rn_800_31 (upR (rn_800_23 (upR (rn_800_15 (upR (upR R 12 0 (some 13)) 12 1 (some 14))) 13 0 (some 15))) 14 0 (some 23))) 13 1 (some 31))) 14 1 (some 39))) 13 2 (some 47))) 14 2 (some 55))) 13 3 (some 63))) 14 3 (some 71))) 13 4 (some 79))) 14 4 (some 87))) 13 5 (some 95))) 14 5 (some 103))) 13 6 (some 111))) 14 6 (some 119))) 13 7 (some 127))) 14 7 (some 135)), I, L))) (b := true) rfl rfl ?_
  rw [if_pos (by decide)]
  refine Rc.goL mt_600 1 (f2 := (34, [.ref 12, .int (8 : Int32)], [(rv ((upR (rn_800_135 (upR (rn_800_127 (upR (rn_800_119 (upR (rn_800_111 (upR (rn_800_103 (upR (rn_800_95 (upR (rn_800_87 (upR (rn_800_79 (upR (rn_800_71 (upR (rn_800_63 (upR (rn_800_55 (upR (rn_800_47 (upR (rn_800_39 (upR (rn_800_31 (upR (rn_800_23 (upR (rn_800_15 (upR (upR R 12 0 (some 13)) 12 1 (some 14))) 13 0 (some 15))) 14 0 (some 23))) 13 1 (some 31))) 14 1 (some 39))) 13 2 (some 47))) 14 2 (some 55))) 13 3 (some 63))) 14 3 (some 71))) 13 4 (some 79))) 14 4 (some 87))) 13 5 (some 95))) 14 5 (some 103))) 13 6 (some 111))) 14 6 (some 119))) 13 7 (some 127))) 14 7 (some 135)) 12 0))], (143, (upR (rn_800_135 (upR (rn_800_127 (upR (rn_800_119 (upR (rn_800_111 (upR (rn_800_103 (upR (rn_800_95 (upR (rn_800_87 (upR (rn_800_79 (upR (rn_800_71 (upR (rn_800_63 (upR (rn_800_55 (upR (rn_800_47 (upR (rn_800_39 (upR (rn_800_31 (upR (rn_800_23 (upR (rn_800_15 (upR (upR R 12 0 (some 13)) 12 1 (some 14))) 13 0 (some 15))) 14 0 (some 23))) 13 1 (some 31))) 14 1 (some 39))) 13 2 (some 47))) 14 2 (some 55))) 13 3 (some 63))) 14 3 (some 71))) 13 4 (some 79))) 14 4 (some 87))) 13 5 (some 95))) 14 5 (some 103))) 13 6 (some 111))) 14 6 (some 119))) 13 7 (some 127))) 14 7 (some 135)), I, L))) (b := true) rfl rfl ?_
  rw [g0]
  show Rc (d + 1) 600 (34, [.ref 12, .int (8 : Int32)], [.ref 13], (143, (upR (rn_800_135 (upR (rn_800_127 (upR (rn_800_119 (upR (rn_800_111 (upR (rn_800_103 (upR (rn_800_95 (upR (rn_800_87 (upR (rn_800_79 (upR (rn_800_71 (upR (rn_800_63 (upR (rn_800_55 (upR (rn_800_47 (upR (rn_800_39 (upR (rn_800_31 (upR (rn_800_23 (upR (rn_800_15 (upR (upR R 12 0 (some 13)) 12 1 (some 14))) 13 0 (some 15))) 14 0 (some 23))) 13 1 (some 31))) 14 1 (some 39))) 13 2 (some 47))) 14 2 (some 55))) 13 3 (some 63))) 14 3 (some 71))) 13 4 (some 79))) 14 4 (some 87))) 13 5 (some 95))) 14 5 (some 103))) 13 6 (some 111))) 14 6 (some 119))) 13 7 (some 127))) 14 7 (some 135)), I, L)) _
  refine Rc.goL mt_600 0 (f2 := (35, [.ref 12, .int (8 : Int32)], [.int (8 : Int32), .ref 13], (143, (upR (rn_800_135 (upR (rn_800_127 (upR (rn_800_119 (upR (rn_800_111 (upR (rn_800_103 (upR (rn_800_95 (upR (rn_800_87 (upR (rn_800_79 (upR (rn_800_71 (upR (rn_800_63 (upR (rn_800_55 (upR (rn_800_47 (upR (rn_800_39 (upR (rn_800_31 (upR (rn_800_23 (upR (rn_800_15 (upR (upR R 12 0 (some 13)) 12 1 (some 14))) 13 0 (some 15))) 14 0 (some 23))) 13 1 (some 31))) 14 1 (some 39))) 13 2 (some 47))) 14 2 (some 55))) 13 3 (some 63))) 14 3 (some 71))) 13 4 (some 79))) 14 4 (some 87))) 13 5 (some 95))) 14 5 (some 103))) 13 6 (some 111))) 14 6 (some 119))) 13 7 (some 127))) 14 7 (some 135)), I, L))) (b := true) rfl rfl ?_
  refine Rc.goL mt_600 0 (f2 := (38, [.ref 12, .int (8 : Int32)], [.ref 143, .int (8 : Int32), .ref 13], nw (143, (upR (rn_800_135 (upR (rn_800_127 (upR (rn_800_119 (upR (rn_800_111 (upR (rn_800_103 (upR (rn_800_95 (upR (rn_800_87 (upR (rn_800_79 (upR (rn_800_71 (upR (rn_800_63 (upR (rn_800_55 (upR (rn_800_47 (upR (rn_800_39 (upR (rn_800_31 (upR (rn_800_23 (upR (rn_800_15 (upR (upR R 12 0 (some 13)) 12 1 (some 14))) 13 0 (some 15))) 14 0 (some 23))) 13 1 (some 31))) 14 1 (some 39))) 13 2 (some 47))) 14 2 (some 55))) 13 3 (some 63))) 14 3 (some 71))) 13 4 (some 79))) 14 4 (some 87))) 13 5 (some 95))) 14 5 (some 103))) 13 6 (some 111))) 14 6 (some 119))) 13 7 (some 127))) 14 7 (some 135)), I, L))) (b := ((Nat.beq (7 : Nat) 7 && Nat.beq (K0 143) 8 && Nat.beq (Z0 143) (nf 8)) && true)) rfl (by decide +kernel) ?_
  rw [(hF.mk1 (m := 144) rfl (by decide)).1]
  have hF := (hF.mk1 (m := 144) rfl (by decide)).2
  refine Rc.goL mt_600 1 (f2 := (42, [.ref 12, .int (8 : Int32)], [.int (200 : Int32), .ref 143, .ref 143, .int (8 : Int32), .ref 13], (144, (upR (rn_800_135 (upR (rn_800_127 (upR (rn_800_119 (upR (rn_800_111 (upR (rn_800_103 (upR (rn_800_95 (upR (rn_800_87 (upR (rn_800_79 (upR (rn_800_71 (upR (rn_800_63 (upR (rn_800_55 (upR (rn_800_47 (upR (rn_800_39 (upR (rn_800_31 (upR (rn_800_23 (upR (rn_800_15 (upR (upR R 12 0 (some 13)) 12 1 (some 14))) 13 0 (some 15))) 14 0 (some 23))) 13 1 (some 31))) 14 1 (some 39))) 13 2 (some 47))) 14 2 (some 55))) 13 3 (some 63))) 14 3 (some 71))) 13 4 (some 79))) 14 4 (some 87))) 13 5 (some 95))) 14 5 (some 103))) 13 6 (some 111))) 14 6 (some 119))) 13 7 (some 127))) 14 7 (some 135)), I, L))) (b := true) rfl rfl ?_
  refine Rc.callI (i := 18) (mid' := 800) (av := [.int (200 : Int32)]) (rest := [.ref 143, .int (8 : Int32), .ref 13]) (v := none) (M1 := (151, (rn_800_143 (upR (rn_800_135 (upR (rn_800_127 (upR (rn_800_119 (upR (rn_800_111 (upR (rn_800_103 (upR (rn_800_95 (upR (rn_800_87 (upR (rn_800_79 (upR (rn_800_71 (upR (rn_800_63 (upR (rn_800_55 (upR (rn_800_47 (upR (rn_800_39 (upR (rn_800_31 (upR (rn_800_23 (upR (rn_800_15 (upR (upR R 12 0 (some 13)) 12 1 (some 14))) 13 0 (some 15))) 14 0 (some 23))) 13 1 (some 31))) 14 1 (some 39))) 13 2 (some 47))) 14 2 (some 55))) 13 3 (some 63))) 14 3 (some 71))) 13 4 (some 79))) 14 4 (some 87))) 13 5 (some 95))) 14 5 (some 103))) 13 6 (some 111))) 14 6 (some 119))) 13 7 (some 127))) 14 7 (some 135))), I, L)) (a := 143) rfl rfl rfl cw_800 rfl rfl (Nat.le_of_ble_eq_true rfl) (cn_800_143 (by omega) hF) ?_
  have hF := cf_800_143 hF
  have g0 := rn_800_143_o g0
  have g1 := rn_800_143_o g1
  refine Rc.goL mt_600 0 (f2 := (46, [.ref 12, .int (8 : Int32)], [], (151, (upR (rn_800_143 (upR (rn_800_135 (upR (rn_800_127 (upR (rn_800_119 (upR (rn_800_111 (upR (rn_800_103 (upR (rn_800_95 (upR (rn_800_87 (upR (rn_800_79 (upR (rn_800_71 (upR (rn_800_63 (upR (rn_800_55 (upR (rn_800_47 (upR (rn_800_39 (upR (rn_800_31 (upR (rn_800_23 (upR (rn_800_15 (upR (upR R 12 0 (some 13)) 12 1 (some 14))) 13 0 (some 15))) 14 0 (some 23))) 13 1 (some 31))) 14 1 (some 39))) 13 2 (some 47))) 14 2 (some 55))) 13 3 (some 63))) 14 3 (some 71))) 13 4 (some 79))) 14 4 (some 87))) 13 5 (some 95))) 14 5 (some 103))) 13 6 (some 111))) 14 6 (some 119))) 13 7 (some 127))) 14 7 (some 135))) 13 8 (some 143)), I, L))) (b := true) rfl rfl ?_
  have hF := hF.uR (c := 13) (i := 8) (v := some 143) (by decide)
  have g0 := upR_o (c := 13) (i := 8) (v := some 143) rfl g0
  have g1 := upR_o (c := 13) (i := 8) (v := some 143) rfl g1
  refine Rc.goL mt_600 1 (f2 := (50, [.ref 12, .int (8 : Int32)], [(rv ((upR (rn_800_143 (upR (rn_800_135 (upR (rn_800_127 (upR (rn_800_119 (upR (rn_800_111 (upR (rn_800_103 (upR (rn_800_95 (upR (rn_800_87 (upR (rn_800_79 (upR (rn_800_71 (upR (rn_800_63 (upR (rn_800_55 (upR (rn_800_47 (upR (rn_800_39 (upR (rn_800_31 (upR (rn_800_23 (upR (rn_800_15 (upR (upR R 12 0 (some 13)) 12 1 (some 14))) 13 0 (some 15))) 14 0 (some 23))) 13 1 (some 31))) 14 1 (some 39))) 13 2 (some 47))) 14 2 (some 55))) 13 3 (some 63))) 14 3 (some 71))) 13 4 (some 79))) 14 4 (some 87))) 13 5 (some 95))) 14 5 (some 103))) 13 6 (some 111))) 14 6 (some 119))) 13 7 (some 127))) 14 7 (some 135))) 13 8 (some 143)) 12 1))], (151, (upR (rn_800_143 (upR (rn_800_135 (upR (rn_800_127 (upR (rn_800_119 (upR (rn_800_111 (upR (rn_800_103 (upR (rn_800_95 (upR (rn_800_87 (upR (rn_800_79 (upR (rn_800_71 (upR (rn_800_63 (upR (rn_800_55 (upR (rn_800_47 (upR (rn_800_39 (upR (rn_800_31 (upR (rn_800_23 (upR (rn_800_15 (upR (upR R 12 0 (some 13)) 12 1 (some 14))) 13 0 (some 15))) 14 0 (some 23))) 13 1 (some 31))) 14 1 (some 39))) 13 2 (some 47))) 14 2 (some 55))) 13 3 (some 63))) 14 3 (some 71))) 13 4 (some 79))) 14 4 (some 87))) 13 5 (some 95))) 14 5 (some 103))) 13 6 (some 111))) 14 6 (some 119))) 13 7 (some 127))) 14 7 (some 135))) 13 8 (some 143)), I, L))) (b := true) rfl rfl ?_
  rw [g1]
  show Rc (d + 1) 600 (50, [.ref 12, .int (8 : Int32)], [.ref 14], (151, (upR (rn_800_143 (upR (rn_800_135 (upR (rn_800_127 (upR (rn_800_119 (upR (rn_800_111 (upR (rn_800_103 (upR (rn_800_95 (upR (rn_800_87 (upR (rn_800_79 (upR (rn_800_71 (upR (rn_800_63 (upR (rn_800_55 (upR (rn_800_47 (upR (rn_800_39 (upR (rn_800_31 (upR (rn_800_23 (upR (rn_800_15 (upR (upR R 12 0 (some 13)) 12 1 (some 14))) 13 0 (some 15))) 14 0 (some 23))) 13 1 (some 31))) 14 1 (some 39))) 13 2 (some 47))) 14 2 (some 55))) 13 3 (some 63))) 14 3 (some 71))) 13 4 (some 79))) 14 4 (some 87))) 13 5 (some 95))) 14 5 (some 103))) 13 6 (some 111))) 14 6 (some 119))) 13 7 (some 127))) 14 7 (some 135))) 13 8 (some 143)), I, L)) _
  refine Rc.goL mt_600 0 (f2 := (51, [.ref 12, .int (8 : Int32)], [.int (8 : Int32), .ref 14], (151, (upR (rn_800_143 (upR (rn_800_135 (upR (rn_800_127 (upR (rn_800_119 (upR (rn_800_111 (upR (rn_800_103 (upR (rn_800_95 (upR (rn_800_87 (upR (rn_800_79 (upR (rn_800_71 (upR (rn_800_63 (upR (rn_800_55 (upR (rn_800_47 (upR (rn_800_39 (upR (rn_800_31 (upR (rn_800_23 (upR (rn_800_15 (upR (upR R 12 0 (some 13)) 12 1 (some 14))) 13 0 (some 15))) 14 0 (some 23))) 13 1 (some 31))) 14 1 (some 39))) 13 2 (some 47))) 14 2 (some 55))) 13 3 (some 63))) 14 3 (some 71))) 13 4 (some 79))) 14 4 (some 87))) 13 5 (some 95))) 14 5 (some 103))) 13 6 (some 111))) 14 6 (some 119))) 13 7 (some 127))) 14 7 (some 135))) 13 8 (some 143)), I, L))) (b := true) rfl rfl ?_
  refine Rc.goL mt_600 0 (f2 := (54, [.ref 12, .int (8 : Int32)], [.ref 151, .int (8 : Int32), .ref 14], nw (151, (upR (rn_800_143 (upR (rn_800_135 (upR (rn_800_127 (upR (rn_800_119 (upR (rn_800_111 (upR (rn_800_103 (upR (rn_800_95 (upR (rn_800_87 (upR (rn_800_79 (upR (rn_800_71 (upR (rn_800_63 (upR (rn_800_55 (upR (rn_800_47 (upR (rn_800_39 (upR (rn_800_31 (upR (rn_800_23 (upR (rn_800_15 (upR (upR R 12 0 (some 13)) 12 1 (some 14))) 13 0 (some 15))) 14 0 (some 23))) 13 1 (some 31))) 14 1 (some 39))) 13 2 (some 47))) 14 2 (some 55))) 13 3 (some 63))) 14 3 (some 71))) 13 4 (some 79))) 14 4 (some 87))) 13 5 (some 95))) 14 5 (some 103))) 13 6 (some 111))) 14 6 (some 119))) 13 7 (some 127))) 14 7 (some 135))) 13 8 (some 143)), I, L))) (b := ((Nat.beq (7 : Nat) 7 && Nat.beq (K0 151) 8 && Nat.beq (Z0 151) (nf 8)) && true)) rfl (by decide +kernel) ?_
  rw [(hF.mk1 (m := 152) rfl (by decide)).1]
  have hF := (hF.mk1 (m := 152) rfl (by decide)).2
  refine Rc.goL mt_600 1 (f2 := (57, [.ref 12, .int (8 : Int32)], [.int (60 : Int32), .ref 151, .ref 151, .int (8 : Int32), .ref 14], (152, (upR (rn_800_143 (upR (rn_800_135 (upR (rn_800_127 (upR (rn_800_119 (upR (rn_800_111 (upR (rn_800_103 (upR (rn_800_95 (upR (rn_800_87 (upR (rn_800_79 (upR (rn_800_71 (upR (rn_800_63 (upR (rn_800_55 (upR (rn_800_47 (upR (rn_800_39 (upR (rn_800_31 (upR (rn_800_23 (upR (rn_800_15 (upR (upR R 12 0 (some 13)) 12 1 (some 14))) 13 0 (some 15))) 14 0 (some 23))) 13 1 (some 31))) 14 1 (some 39))) 13 2 (some 47))) 14 2 (some 55))) 13 3 (some 63))) 14 3 (some 71))) 13 4 (some 79))) 14 4 (some 87))) 13 5 (some 95))) 14 5 (some 103))) 13 6 (some 111))) 14 6 (some 119))) 13 7 (some 127))) 14 7 (some 135))) 13 8 (some 143)), I, L))) (b := true) rfl rfl ?_
  refine Rc.callI (i := 18) (mid' := 800) (av := [.int (60 : Int32)]) (rest := [.ref 151, .int (8 : Int32), .ref 14]) (v := none) (M1 := (159, (rn_800_151 (upR (rn_800_143 (upR (rn_800_135 (upR (rn_800_127 (upR (rn_800_119 (upR (rn_800_111 (upR (rn_800_103 (upR (rn_800_95 (upR (rn_800_87 (upR (rn_800_79 (upR (rn_800_71 (upR (rn_800_63 (upR (rn_800_55 (upR (rn_800_47 (upR (rn_800_39 (upR (rn_800_31 (upR (rn_800_23 (upR (rn_800_15 (upR (upR R 12 0 (some 13)) 12 1 (some 14))) 13 0 (some 15))) 14 0 (some 23))) 13 1 (some 31))) 14 1 (some 39))) 13 2 (some 47))) 14 2 (some 55))) 13 3 (some 63))) 14 3 (some 71))) 13 4 (some 79))) 14 4 (some 87))) 13 5 (some 95))) 14 5 (some 103))) 13 6 (some 111))) 14 6 (some 119))) 13 7 (some 127))) 14 7 (some 135))) 13 8 (some 143))), I, L)) (a := 151) rfl rfl rfl cw_800 rfl rfl (Nat.le_of_ble_eq_true rfl) (cn_800_151 (by omega) hF) ?_
  have hF := cf_800_151 hF
  have g0 := rn_800_151_o g0
  have g1 := rn_800_151_o g1
  refine Rc.goL mt_600 0 (f2 := (61, [.ref 12, .int (8 : Int32)], [], (159, (upR (rn_800_151 (upR (rn_800_143 (upR (rn_800_135 (upR (rn_800_127 (upR (rn_800_119 (upR (rn_800_111 (upR (rn_800_103 (upR (rn_800_95 (upR (rn_800_87 (upR (rn_800_79 (upR (rn_800_71 (upR (rn_800_63 (upR (rn_800_55 (upR (rn_800_47 (upR (rn_800_39 (upR (rn_800_31 (upR (rn_800_23 (upR (rn_800_15 (upR (upR R 12 0 (some 13)) 12 1 (some 14))) 13 0 (some 15))) 14 0 (some 23))) 13 1 (some 31))) 14 1 (some 39))) 13 2 (some 47))) 14 2 (some 55))) 13 3 (some 63))) 14 3 (some 71))) 13 4 (some 79))) 14 4 (some 87))) 13 5 (some 95))) 14 5 (some 103))) 13 6 (some 111))) 14 6 (some 119))) 13 7 (some 127))) 14 7 (some 135))) 13 8 (some 143))) 14 8 (some 151)), I, L))) (b := true) rfl rfl ?_
  have hF := hF.uR (c := 14) (i := 8) (v := some 151) (by decide)
  have g0 := upR_o (c := 14) (i := 8) (v := some 151) rfl g0
  have g1 := upR_o (c := 14) (i := 8) (v := some 151) rfl g1
  refine Rc.goL mt_600 0 (f2 := (64, [.ref 12, .int ((8 : Int32) + 1)], [], (159, (upR (rn_800_151 (upR (rn_800_143 (upR (rn_800_135 (upR (rn_800_127 (upR (rn_800_119 (upR (rn_800_111 (upR (rn_800_103 (upR (rn_800_95 (upR (rn_800_87 (upR (rn_800_79 (upR (rn_800_71 (upR (rn_800_63 (upR (rn_800_55 (upR (rn_800_47 (upR (rn_800_39 (upR (rn_800_31 (upR (rn_800_23 (upR (rn_800_15 (upR (upR R 12 0 (some 13)) 12 1 (some 14))) 13 0 (some 15))) 14 0 (some 23))) 13 1 (some 31))) 14 1 (some 39))) 13 2 (some 47))) 14 2 (some 55))) 13 3 (some 63))) 14 3 (some 71))) 13 4 (some 79))) 14 4 (some 87))) 13 5 (some 95))) 14 5 (some 103))) 13 6 (some 111))) 14 6 (some 119))) 13 7 (some 127))) 14 7 (some 135))) 13 8 (some 143))) 14 8 (some 151)), I, L))) (b := true) rfl rfl ?_
  rw [show (8 : Int32) + 1 = 9 from by decide]
  refine Rc.goL mt_600 0 (f2 := (24, [.ref 12, .int (9 : Int32)], [], (159, (upR (rn_800_151 (upR (rn_800_143 (upR (rn_800_135 (upR (rn_800_127 (upR (rn_800_119 (upR (rn_800_111 (upR (rn_800_103 (upR (rn_800_95 (upR (rn_800_87 (upR (rn_800_79 (upR (rn_800_71 (upR (rn_800_63 (upR (rn_800_55 (upR (rn_800_47 (upR (rn_800_39 (upR (rn_800_31 (upR (rn_800_23 (upR (rn_800_15 (upR (upR R 12 0 (some 13)) 12 1 (some 14))) 13 0 (some 15))) 14 0 (some 23))) 13 1 (some 31))) 14 1 (some 39))) 13 2 (some 47))) 14 2 (some 55))) 13 3 (some 63))) 14 3 (some 71))) 13 4 (some 79))) 14 4 (some 87))) 13 5 (some 95))) 14 5 (some 103))) 13 6 (some 111))) 14 6 (some 119))) 13 7 (some 127))) 14 7 (some 135))) 13 8 (some 143))) 14 8 (some 151)), I, L))) (b := true) rfl rfl ?_
  refine Rc.goL mt_600 2 (f2 := ((if (9 : Int32) < (10 : Int32) then 30 else 67), [.ref 12, .int (9 : Int32)], [], (159, (upR (rn_800_151 (upR (rn_800_143 (upR (rn_800_135 (upR (rn_800_127 (upR (rn_800_119 (upR (rn_800_111 (upR (rn_800_103 (upR (rn_800_95 (upR (rn_800_87 (upR (rn_800_79 (upR (rn_800_71 (upR (rn_800_63 (upR (rn_800_55 (upR (rn_800_47 (upR (rn_800_39 (upR (rn_800_31 (upR (rn_800_23 (upR (rn_800_15 (upR (upR R 12 0 (some 13)) 12 1 (some 14))) 13 0 (some 15))) 14 0 (some 23))) 13 1 (some 31))) 14 1 (some 39))) 13 2 (some 47))) 14 2 (some 55))) 13 3 (some 63))) 14 3 (some 71))) 13 4 (some 79))) 14 4 (some 87))) 13 5 (some 95))) 14 5 (some 103))) 13 6 (some 111))) 14 6 (some 119))) 13 7 (some 127))) 14 7 (some 135))) 13 8 (some 143))) 14 8 (some 151)), I, L))) (b := true) rfl rfl ?_
  rw [if_pos (by decide)]
  refine Rc.goL mt_600 1 (f2 := (34, [.ref 12, .int (9 : Int32)], [(rv ((upR (rn_800_151 (upR (rn_800_143 (upR (rn_800_135 (upR (rn_800_127 (upR (rn_800_119 (upR (rn_800_111 (upR (rn_800_103 (upR (rn_800_95 (upR (rn_800_87 (upR (rn_800_79 (upR (rn_800_71 (upR (rn_800_63 (upR (rn_800_55 (upR (rn_800_47 (upR (rn_800_39 (upR (rn_800_31 (upR (rn_800_23 (upR (rn_800_15 (upR (upR R 12 0 (some 13)) 12 1 (some 14))) 13 0 (some 15))) 14 0 (some 23))) 13 1 (some 31))) 14 1 (some 39))) 13 2 (some 47))) 14 2 (some 55))) 13 3 (some 63))) 14 3 (some 71))) 13 4 (some 79))) 14 4 (some 87))) 13 5 (some 95))) 14 5 (some 103))) 13 6 (some 111))) 14 6 (some 119))) 13 7 (some 127))) 14 7 (some 135))) 13 8 (some 143))) 14 8 (some 151)) 12 0))], (159, (upR (rn_800_151 (upR (rn_800_143 (upR (rn_800_135 (upR (rn_800_127 (upR (rn_800_119 (upR (rn_800_111 (upR (rn_800_103 (upR (rn_800_95 (upR (rn_800_87 (upR (rn_800_79 (upR (rn_800_71 (upR (rn_800_63 (upR (rn_800_55 (upR (rn_800_47 (upR (rn_800_39 (upR (rn_800_31 (upR (rn_800_23 (upR (rn_800_15 (upR (upR R 12 0 (some 13)) 12 1 (some 14))) 13 0 (some 15))) 14 0 (some 23))) 13 1 (some 31))) 14 1 (some 39))) 13 2 (some 47))) 14 2 (some 55))) 13 3 (some 63))) 14 3 (some 71))) 13 4 (some 79))) 14 4 (some 87))) 13 5 (some 95))) 14 5 (some 103))) 13 6 (some 111))) 14 6 (some 119))) 13 7 (some 127))) 14 7 (some 135))) 13 8 (some 143))) 14 8 (some 151)), I, L))) (b := true) rfl rfl ?_
  rw [g0]
  show Rc (d + 1) 600 (34, [.ref 12, .int (9 : Int32)], [.ref 13], (159, (upR (rn_800_151 (upR (rn_800_143 (upR (rn_800_135 (upR (rn_800_127 (upR (rn_800_119 (upR (rn_800_111 (upR (rn_800_103 (upR (rn_800_95 (upR (rn_800_87 (upR (rn_800_79 (upR (rn_800_71 (upR (rn_800_63 (upR (rn_800_55 (upR (rn_800_47 (upR (rn_800_39 (upR (rn_800_31 (upR (rn_800_23 (upR (rn_800_15 (upR (upR R 12 0 (some 13)) 12 1 (some 14))) 13 0 (some 15))) 14 0 (some 23))) 13 1 (some 31))) 14 1 (some 39))) 13 2 (some 47))) 14 2 (some 55))) 13 3 (some 63))) 14 3 (some 71))) 13 4 (some 79))) 14 4 (some 87))) 13 5 (some 95))) 14 5 (some 103))) 13 6 (some 111))) 14 6 (some 119))) 13 7 (some 127))) 14 7 (some 135))) 13 8 (some 143))) 14 8 (some 151)), I, L)) _
  refine Rc.goL mt_600 0 (f2 := (35, [.ref 12, .int (9 : Int32)], [.int (9 : Int32), .ref 13], (159, (upR (rn_800_151 (upR (rn_800_143 (upR (rn_800_135 (upR (rn_800_127 (upR (rn_800_119 (upR (rn_800_111 (upR (rn_800_103 (upR (rn_800_95 (upR (rn_800_87 (upR (rn_800_79 (upR (rn_800_71 (upR (rn_800_63 (upR (rn_800_55 (upR (rn_800_47 (upR (rn_800_39 (upR (rn_800_31 (upR (rn_800_23 (upR (rn_800_15 (upR (upR R 12 0 (some 13)) 12 1 (some 14))) 13 0 (some 15))) 14 0 (some 23))) 13 1 (some 31))) 14 1 (some 39))) 13 2 (some 47))) 14 2 (some 55))) 13 3 (some 63))) 14 3 (some 71))) 13 4 (some 79))) 14 4 (some 87))) 13 5 (some 95))) 14 5 (some 103))) 13 6 (some 111))) 14 6 (some 119))) 13 7 (some 127))) 14 7 (some 135))) 13 8 (some 143))) 14 8 (some 151)), I, L))) (b := true) rfl rfl ?_
  refine Rc.goL mt_600 0 (f2 := (38, [.ref 12, .int (9 : Int32)], [.ref 159, .int (9 : Int32), .ref 13], nw (159, (upR (rn_800_151 (upR (rn_800_143 (upR (rn_800_135 (upR (rn_800_127 (upR (rn_800_119 (upR (rn_800_111 (upR (rn_800_103 (upR (rn_800_95 (upR (rn_800_87 (upR (rn_800_79 (upR (rn_800_71 (upR (rn_800_63 (upR (rn_800_55 (upR (rn_800_47 (upR (rn_800_39 (upR (rn_800_31 (upR (rn_800_23 (upR (rn_800_15 (upR (upR R 12 0 (some 13)) 12 1 (some 14))) 13 0 (some 15))) 14 0 (some 23))) 13 1 (some 31))) 14 1 (some 39))) 13 2 (some 47))) 14 2 (some 55))) 13 3 (some 63))) 14 3 (some 71))) 13 4 (some 79))) 14 4 (some 87))) 13 5 (some 95))) 14 5 (some 103))) 13 6 (some 111))) 14 6 (some 119))) 13 7 (some 127))) 14 7 (some 135))) 13 8 (some 143))) 14 8 (some 151)), I, L))) (b := ((Nat.beq (7 : Nat) 7 && Nat.beq (K0 159) 8 && Nat.beq (Z0 159) (nf 8)) && true)) rfl (by decide +kernel) ?_
  rw [(hF.mk1 (m := 160) rfl (by decide)).1]
  have hF := (hF.mk1 (m := 160) rfl (by decide)).2
  refine Rc.goL mt_600 1 (f2 := (42, [.ref 12, .int (9 : Int32)], [.int (200 : Int32), .ref 159, .ref 159, .int (9 : Int32), .ref 13], (160, (upR (rn_800_151 (upR (rn_800_143 (upR (rn_800_135 (upR (rn_800_127 (upR (rn_800_119 (upR (rn_800_111 (upR (rn_800_103 (upR (rn_800_95 (upR (rn_800_87 (upR (rn_800_79 (upR (rn_800_71 (upR (rn_800_63 (upR (rn_800_55 (upR (rn_800_47 (upR (rn_800_39 (upR (rn_800_31 (upR (rn_800_23 (upR (rn_800_15 (upR (upR R 12 0 (some 13)) 12 1 (some 14))) 13 0 (some 15))) 14 0 (some 23))) 13 1 (some 31))) 14 1 (some 39))) 13 2 (some 47))) 14 2 (some 55))) 13 3 (some 63))) 14 3 (some 71))) 13 4 (some 79))) 14 4 (some 87))) 13 5 (some 95))) 14 5 (some 103))) 13 6 (some 111))) 14 6 (some 119))) 13 7 (some 127))) 14 7 (some 135))) 13 8 (some 143))) 14 8 (some 151)), I, L))) (b := true) rfl rfl ?_
  refine Rc.callI (i := 18) (mid' := 800) (av := [.int (200 : Int32)]) (rest := [.ref 159, .int (9 : Int32), .ref 13]) (v := none) (M1 := (167, (rn_800_159 (upR (rn_800_151 (upR (rn_800_143 (upR (rn_800_135 (upR (rn_800_127 (upR (rn_800_119 (upR (rn_800_111 (upR (rn_800_103 (upR (rn_800_95 (upR (rn_800_87 (upR (rn_800_79 (upR (rn_800_71 (upR (rn_800_63 (upR (rn_800_55 (upR (rn_800_47 (upR (rn_800_39 (upR (rn_800_31 (upR (rn_800_23 (upR (rn_800_15 (upR (upR R 12 0 (some 13)) 12 1 (some 14))) 13 0 (some 15))) 14 0 (some 23))) 13 1 (some 31))) 14 1 (some 39))) 13 2 (some 47))) 14 2 (some 55))) 13 3 (some 63))) 14 3 (some 71))) 13 4 (some 79))) 14 4 (some 87))) 13 5 (some 95))) 14 5 (some 103))) 13 6 (some 111))) 14 6 (some 119))) 13 7 (some 127))) 14 7 (some 135))) 13 8 (some 143))) 14 8 (some 151))), I, L)) (a := 159) rfl rfl rfl cw_800 rfl rfl (Nat.le_of_ble_eq_true rfl) (cn_800_159 (by omega) hF) ?_
  have hF := cf_800_159 hF
  have g0 := rn_800_159_o g0
  have g1 := rn_800_159_o g1
  refine Rc.goL mt_600 0 (f2 := (46, [.ref 12, .int (9 : Int32)], [], (167, (upR (rn_800_159 (upR (rn_800_151 (upR (rn_800_143 (upR (rn_800_135 (upR (rn_800_127 (upR (rn_800_119 (upR (rn_800_111 (upR (rn_800_103 (upR (rn_800_95 (upR (rn_800_87 (upR (rn_800_79 (upR (rn_800_71 (upR (rn_800_63 (upR (rn_800_55 (upR (rn_800_47 (upR (rn_800_39 (upR (rn_800_31 (upR (rn_800_23 (upR (rn_800_15 (upR (upR R 12 0 (some 13)) 12 1 (some 14))) 13 0 (some 15))) 14 0 (some 23))) 13 1 (some 31))) 14 1 (some 39))) 13 2 (some 47))) 14 2 (some 55))) 13 3 (some 63))) 14 3 (some 71))) 13 4 (some 79))) 14 4 (some 87))) 13 5 (some 95))) 14 5 (some 103))) 13 6 (some 111))) 14 6 (some 119))) 13 7 (some 127))) 14 7 (some 135))) 13 8 (some 143))) 14 8 (some 151))) 13 9 (some 159)), I, L))) (b := true) rfl rfl ?_
  have hF := hF.uR (c := 13) (i := 9) (v := some 159) (by decide)
  have g0 := upR_o (c := 13) (i := 9) (v := some 159) rfl g0
  have g1 := upR_o (c := 13) (i := 9) (v := some 159) rfl g1
  refine Rc.goL mt_600 1 (f2 := (50, [.ref 12, .int (9 : Int32)], [(rv ((upR (rn_800_159 (upR (rn_800_151 (upR (rn_800_143 (upR (rn_800_135 (upR (rn_800_127 (upR (rn_800_119 (upR (rn_800_111 (upR (rn_800_103 (upR (rn_800_95 (upR (rn_800_87 (upR (rn_800_79 (upR (rn_800_71 (upR (rn_800_63 (upR (rn_800_55 (upR (rn_800_47 (upR (rn_800_39 (upR (rn_800_31 (upR (rn_800_23 (upR (rn_800_15 (upR (upR R 12 0 (some 13)) 12 1 (some 14))) 13 0 (some 15))) 14 0 (some 23))) 13 1 (some 31))) 14 1 (some 39))) 13 2 (some 47))) 14 2 (some 55))) 13 3 (some 63))) 14 3 (some 71))) 13 4 (some 79))) 14 4 (some 87))) 13 5 (some 95))) 14 5 (some 103))) 13 6 (some 111))) 14 6 (some 119))) 13 7 (some 127))) 14 7 (some 135))) 13 8 (some 143))) 14 8 (some 151))) 13 9 (some 159)) 12 1))], (167, (upR (rn_800_159 (upR (rn_800_151 (upR (rn_800_143 (upR (rn_800_135 (upR (rn_800_127 (upR (rn_800_119 (upR (rn_800_111 (upR (rn_800_103 (upR (rn_800_95 (upR (rn_800_87 (upR (rn_800_79 (upR (rn_800_71 (upR (rn_800_63 (upR (rn_800_55 (upR (rn_800_47 (upR (rn_800_39 (upR (rn_800_31 (upR (rn_800_23 (upR (rn_800_15 (upR (upR R 12 0 (some 13)) 12 1 (some 14))) 13 0 (some 15))) 14 0 (some 23))) 13 1 (some 31))) 14 1 (some 39))) 13 2 (some 47))) 14 2 (some 55))) 13 3 (some 63))) 14 3 (some 71))) 13 4 (some 79))) 14 4 (some 87))) 13 5 (some 95))) 14 5 (some 103))) 13 6 (some 111))) 14 6 (some 119))) 13 7 (some 127))) 14 7 (some 135))) 13 8 (some 143))) 14 8 (some 151))) 13 9 (some 159)), I, L))) (b := true) rfl rfl ?_
  rw [g1]
  show Rc (d + 1) 600 (50, [.ref 12, .int (9 : Int32)], [.ref 14], (167, (upR (rn_800_159 (upR (rn_800_151 (upR (rn_800_143 (upR (rn_800_135 (upR (rn_800_127 (upR (rn_800_119 (upR (rn_800_111 (upR (rn_800_103 (upR (rn_800_95 (upR (rn_800_87 (upR (rn_800_79 (upR (rn_800_71 (upR (rn_800_63 (upR (rn_800_55 (upR (rn_800_47 (upR (rn_800_39 (upR (rn_800_31 (upR (rn_800_23 (upR (rn_800_15 (upR (upR R 12 0 (some 13)) 12 1 (some 14))) 13 0 (some 15))) 14 0 (some 23))) 13 1 (some 31))) 14 1 (some 39))) 13 2 (some 47))) 14 2 (some 55))) 13 3 (some 63))) 14 3 (some 71))) 13 4 (some 79))) 14 4 (some 87))) 13 5 (some 95))) 14 5 (some 103))) 13 6 (some 111))) 14 6 (some 119))) 13 7 (some 127))) 14 7 (some 135))) 13 8 (some 143))) 14 8 (some 151))) 13 9 (some 159)), I, L)) _
  refine Rc.goL mt_600 0 (f2 := (51, [.ref 12, .int (9 : Int32)], [.int (9 : Int32), .ref 14], (167, (upR (rn_800_159 (upR (rn_800_151 (upR (rn_800_143 (upR (rn_800_135 (upR (rn_800_127 (upR (rn_800_119 (upR (rn_800_111 (upR (rn_800_103 (upR (rn_800_95 (upR (rn_800_87 (upR (rn_800_79 (upR (rn_800_71 (upR (rn_800_63 (upR (rn_800_55 (upR (rn_800_47 (upR (rn_800_39 (upR (rn_800_31 (upR (rn_800_23 (upR (rn_800_15 (upR (upR R 12 0 (some 13)) 12 1 (some 14))) 13 0 (some 15))) 14 0 (some 23))) 13 1 (some 31))) 14 1 (some 39))) 13 2 (some 47))) 14 2 (some 55))) 13 3 (some 63))) 14 3 (some 71))) 13 4 (some 79))) 14 4 (some 87))) 13 5 (some 95))) 14 5 (some 103))) 13 6 (some 111))) 14 6 (some 119))) 13 7 (some 127))) 14 7 (some 135))) 13 8 (some 143))) 14 8 (some 151))) 13 9 (some 159)), I, L))) (b := true) rfl rfl ?_
  refine Rc.goL mt_600 0 (f2 := (54, [.ref 12, .int (9 : Int32)], [.ref 167, .int (9 : Int32), .ref 14], nw (167, (upR (rn_800_159 (upR (rn_800_151 (upR (rn_800_143 (upR (rn_800_135 (upR (rn_800_127 (upR (rn_800_119 (upR (rn_800_111 (upR (rn_800_103 (upR (rn_800_95 (upR (rn_800_87 (upR (rn_800_79 (upR (rn_800_71 (upR (rn_800_63 (upR (rn_800_55 (upR (rn_800_47 (upR (rn_800_39 (upR (rn_800_31 (upR (rn_800_23 (upR (rn_800_15 (upR (upR R 12 0 (some 13)) 12 1 (some 14))) 13 0 (some 15))) 14 0 (some 23))) 13 1 (some 31))) 14 1 (some 39))) 13 2 (some 47))) 14 2 (some 55))) 13 3 (some 63))) 14 3 (some 71))) 13 4 (some 79))) 14 4 (some 87))) 13 5 (some 95))) 14 5 (some 103))) 13 6 (some 111))) 14 6 (some 119))) 13 7 (some 127))) 14 7 (some 135))) 13 8 (some 143))) 14 8 (some 151))) 13 9 (some 159)), I, L))) (b := ((Nat.beq (7 : Nat) 7 && Nat.beq (K0 167) 8 && Nat.beq (Z0 167) (nf 8)) && true)) rfl (by decide +kernel) ?_
  rw [(hF.mk1 (m := 168) rfl (by decide)).1]
  have hF := (hF.mk1 (m := 168) rfl (by decide)).2
  refine Rc.goL mt_600 1 (f2 := (57, [.ref 12, .int (9 : Int32)], [.int (60 : Int32), .ref 167, .ref 167, .int (9 : Int32), .ref 14], (168, (upR (rn_800_159 (upR (rn_800_151 (upR (rn_800_143 (upR (rn_800_135 (upR (rn_800_127 (upR (rn_800_119 (upR (rn_800_111 (upR (rn_800_103 (upR (rn_800_95 (upR (rn_800_87 (upR (rn_800_79 (upR (rn_800_71 (upR (rn_800_63 (upR (rn_800_55 (upR (rn_800_47 (upR (rn_800_39 (upR (rn_800_31 (upR (rn_800_23 (upR (rn_800_15 (upR (upR R 12 0 (some 13)) 12 1 (some 14))) 13 0 (some 15))) 14 0 (some 23))) 13 1 (some 31))) 14 1 (some 39))) 13 2 (some 47))) 14 2 (some 55))) 13 3 (some 63))) 14 3 (some 71))) 13 4 (some 79))) 14 4 (some 87))) 13 5 (some 95))) 14 5 (some 103))) 13 6 (some 111))) 14 6 (some 119))) 13 7 (some 127))) 14 7 (some 135))) 13 8 (some 143))) 14 8 (some 151))) 13 9 (some 159)), I, L))) (b := true) rfl rfl ?_
  refine Rc.callI (i := 18) (mid' := 800) (av := [.int (60 : Int32)]) (rest := [.ref 167, .int (9 : Int32), .ref 14]) (v := none) (M1 := (175, (rn_800_167 (upR (rn_800_159 (upR (rn_800_151 (upR (rn_800_143 (upR (rn_800_135 (upR (rn_800_127 (upR (rn_800_119 (upR (rn_800_111 (upR (rn_800_103 (upR (rn_800_95 (upR (rn_800_87 (upR (rn_800_79 (upR (rn_800_71 (upR (rn_800_63 (upR (rn_800_55 (upR (rn_800_47 (upR (rn_800_39 (upR (rn_800_31 (upR (rn_800_23 (upR (rn_800_15 (upR (upR R 12 0 (some 13)) 12 1 (some 14))) 13 0 (some 15))) 14 0 (some 23))) 13 1 (some 31))) 14 1 (some 39))) 13 2 (some 47))) 14 2 (some 55))) 13 3 (some 63))) 14 3 (some 71))) 13 4 (some 79))) 14 4 (some 87))) 13 5 (some 95))) 14 5 (some 103))) 13 6 (some 111))) 14 6 (some 119))) 13 7 (some 127))) 14 7 (some 135))) 13 8 (some 143))) 14 8 (some 151))) 13 9 (some 159))), I, L)) (a := 167) rfl rfl rfl cw_800 rfl rfl (Nat.le_of_ble_eq_true rfl) (cn_800_167 (by omega) hF) ?_
  have hF := cf_800_167 hF
  have g0 := rn_800_167_o g0
  have g1 := rn_800_167_o g1
  refine Rc.goL mt_600 0 (f2 := (61, [.ref 12, .int (9 : Int32)], [], (175, (upR (rn_800_167 (upR (rn_800_159 (upR (rn_800_151 (upR (rn_800_143 (upR (rn_800_135 (upR (rn_800_127 (upR (rn_800_119 (upR (rn_800_111 (upR (rn_800_103 (upR (rn_800_95 (upR (rn_800_87 (upR (rn_800_79 (upR (rn_800_71 (upR (rn_800_63 (upR (rn_800_55 (upR (rn_800_47 (upR (rn_800_39 (upR (rn_800_31 (upR (rn_800_23 (upR (rn_800_15 (upR (upR R 12 0 (some 13)) 12 1 (some 14))) 13 0 (some 15))) 14 0 (some 23))) 13 1 (some 31))) 14 1 (some 39))) 13 2 (some 47))) 14 2 (some 55))) 13 3 (some 63))) 14 3 (some 71))) 13 4 (some 79))) 14 4 (some 87))) 13 5 (some 95))) 14 5 (some 103))) 13 6 (some 111))) 14 6 (some 119))) 13 7 (some 127))) 14 7 (some 135))) 13 8 (some 143))) 14 8 (some 151))) 13 9 (some 159))) 14 9 (some 167)), I, L))) (b := true) rfl rfl ?_
  have hF := hF.uR (c := 14) (i := 9) (v := some 167) (by decide)
  have g0 := upR_o (c := 14) (i := 9) (v := some 167) rfl g0
  have g1 := upR_o (c := 14) (i := 9) (v := some 167) rfl g1
  refine Rc.goL mt_600 0 (f2 := (64, [.ref 12, .int ((9 : Int32) + 1)], [], (175, (upR (rn_800_167 (upR (rn_800_159 (upR (rn_800_151 (upR (rn_800_143 (upR (rn_800_135 (upR (rn_800_127 (upR (rn_800_119 (upR (rn_800_111 (upR (rn_800_103 (upR (rn_800_95 (upR (rn_800_87 (upR (rn_800_79 (upR (rn_800_71 (upR (rn_800_63 (upR (rn_800_55 (upR (rn_800_47 (upR (rn_800_39 (upR (rn_800_31 (upR (rn_800_23 (upR (rn_800_15 (upR (upR R 12 0 (some 13)) 12 1 (some 14))) 13 0 (some 15))) 14 0 (some 23))) 13 1 (some 31))) 14 1 (some 39))) 13 2 (some 47))) 14 2 (some 55))) 13 3 (some 63))) 14 3 (some 71))) 13 4 (some 79))) 14 4 (some 87))) 13 5 (some 95))) 14 5 (some 103))) 13 6 (some 111))) 14 6 (some 119))) 13 7 (some 127))) 14 7 (some 135))) 13 8 (some 143))) 14 8 (some 151))) 13 9 (some 159))) 14 9 (some 167)), I, L))) (b := true) rfl rfl ?_
  rw [show (9 : Int32) + 1 = 10 from by decide]
  refine Rc.goL mt_600 0 (f2 := (24, [.ref 12, .int (10 : Int32)], [], (175, (upR (rn_800_167 (upR (rn_800_159 (upR (rn_800_151 (upR (rn_800_143 (upR (rn_800_135 (upR (rn_800_127 (upR (rn_800_119 (upR (rn_800_111 (upR (rn_800_103 (upR (rn_800_95 (upR (rn_800_87 (upR (rn_800_79 (upR (rn_800_71 (upR (rn_800_63 (upR (rn_800_55 (upR (rn_800_47 (upR (rn_800_39 (upR (rn_800_31 (upR (rn_800_23 (upR (rn_800_15 (upR (upR R 12 0 (some 13)) 12 1 (some 14))) 13 0 (some 15))) 14 0 (some 23))) 13 1 (some 31))) 14 1 (some 39))) 13 2 (some 47))) 14 2 (some 55))) 13 3 (some 63))) 14 3 (some 71))) 13 4 (some 79))) 14 4 (some 87))) 13 5 (some 95))) 14 5 (some 103))) 13 6 (some 111))) 14 6 (some 119))) 13 7 (some 127))) 14 7 (some 135))) 13 8 (some 143))) 14 8 (some 151))) 13 9 (some 159))) 14 9 (some 167)), I, L))) (b := true) rfl rfl ?_
  refine Rc.goL mt_600 2 (f2 := ((if (10 : Int32) < (10 : Int32) then 30 else 67), [.ref 12, .int (10 : Int32)], [], (175, (upR (rn_800_167 (upR (rn_800_159 (upR (rn_800_151 (upR (rn_800_143 (upR (rn_800_135 (upR (rn_800_127 (upR (rn_800_119 (upR (rn_800_111 (upR (rn_800_103 (upR (rn_800_95 (upR (rn_800_87 (upR (rn_800_79 (upR (rn_800_71 (upR (rn_800_63 (upR (rn_800_55 (upR (rn_800_47 (upR (rn_800_39 (upR (rn_800_31 (upR (rn_800_23 (upR (rn_800_15 (upR (upR R 12 0 (some 13)) 12 1 (some 14))) 13 0 (some 15))) 14 0 (some 23))) 13 1 (some 31))) 14 1 (some 39))) 13 2 (some 47))) 14 2 (some 55))) 13 3 (some 63))) 14 3 (some 71))) 13 4 (some 79))) 14 4 (some 87))) 13 5 (some 95))) 14 5 (some 103))) 13 6 (some 111))) 14 6 (some 119))) 13 7 (some 127))) 14 7 (some 135))) 13 8 (some 143))) 14 8 (some 151))) 13 9 (some 159))) 14 9 (some 167)), I, L))) (b := true) rfl rfl ?_
  rw [if_neg (by decide)]
  refine Rc.goL mt_600 1 (f2 := (70, [.ref 12, .int (10 : Int32)], [.int (10 : Int32), .ref 12], (175, (upR (rn_800_167 (upR (rn_800_159 (upR (rn_800_151 (upR (rn_800_143 (upR (rn_800_135 (upR (rn_800_127 (upR (rn_800_119 (upR (rn_800_111 (upR (rn_800_103 (upR (rn_800_95 (upR (rn_800_87 (upR (rn_800_79 (upR (rn_800_71 (upR (rn_800_63 (upR (rn_800_55 (upR (rn_800_47 (upR (rn_800_39 (upR (rn_800_31 (upR (rn_800_23 (upR (rn_800_15 (upR (upR R 12 0 (some 13)) 12 1 (some 14))) 13 0 (some 15))) 14 0 (some 23))) 13 1 (some 31))) 14 1 (some 39))) 13 2 (some 47))) 14 2 (some 55))) 13 3 (some 63))) 14 3 (some 71))) 13 4 (some 79))) 14 4 (some 87))) 13 5 (some 95))) 14 5 (some 103))) 13 6 (some 111))) 14 6 (some 119))) 13 7 (some 127))) 14 7 (some 135))) 13 8 (some 143))) 14 8 (some 151))) 13 9 (some 159))) 14 9 (some 167)), I, L))) (b := true) rfl rfl ?_
  refine Rc.goL mt_600 0 (f2 := (72, [.ref 12, .int (10 : Int32)], [.ref 175, .ref 12], nw (175, (upR (rn_800_167 (upR (rn_800_159 (upR (rn_800_151 (upR (rn_800_143 (upR (rn_800_135 (upR (rn_800_127 (upR (rn_800_119 (upR (rn_800_111 (upR (rn_800_103 (upR (rn_800_95 (upR (rn_800_87 (upR (rn_800_79 (upR (rn_800_71 (upR (rn_800_63 (upR (rn_800_55 (upR (rn_800_47 (upR (rn_800_39 (upR (rn_800_31 (upR (rn_800_23 (upR (rn_800_15 (upR (upR R 12 0 (some 13)) 12 1 (some 14))) 13 0 (some 15))) 14 0 (some 23))) 13 1 (some 31))) 14 1 (some 39))) 13 2 (some 47))) 14 2 (some 55))) 13 3 (some 63))) 14 3 (some 71))) 13 4 (some 79))) 14 4 (some 87))) 13 5 (some 95))) 14 5 (some 103))) 13 6 (some 111))) 14 6 (some 119))) 13 7 (some 127))) 14 7 (some 135))) 13 8 (some 143))) 14 8 (some 151))) 13 9 (some 159))) 14 9 (some 167)), I, L))) (b := ((Nat.beq (K0 175) (kAT .long) && decide (¬ (10 : Int32) < 0) && Nat.beq (Int32.toNatClampNeg (10 : Int32)) (Z0 175)) && true)) rfl (by decide +kernel) ?_
  rw [(hF.mk1 (m := 176) rfl (by decide)).1]
  have hF := (hF.mk1 (m := 176) rfl (by decide)).2
  refine Rc.goL mt_600 0 (f2 := (75, [.ref 12, .int (10 : Int32)], [], (176, (upR (upR (rn_800_167 (upR (rn_800_159 (upR (rn_800_151 (upR (rn_800_143 (upR (rn_800_135 (upR (rn_800_127 (upR (rn_800_119 (upR (rn_800_111 (upR (rn_800_103 (upR (rn_800_95 (upR (rn_800_87 (upR (rn_800_79 (upR (rn_800_71 (upR (rn_800_63 (upR (rn_800_55 (upR (rn_800_47 (upR (rn_800_39 (upR (rn_800_31 (upR (rn_800_23 (upR (rn_800_15 (upR (upR R 12 0 (some 13)) 12 1 (some 14))) 13 0 (some 15))) 14 0 (some 23))) 13 1 (some 31))) 14 1 (some 39))) 13 2 (some 47))) 14 2 (some 55))) 13 3 (some 63))) 14 3 (some 71))) 13 4 (some 79))) 14 4 (some 87))) 13 5 (some 95))) 14 5 (some 103))) 13 6 (some 111))) 14 6 (some 119))) 13 7 (some 127))) 14 7 (some 135))) 13 8 (some 143))) 14 8 (some 151))) 13 9 (some 159))) 14 9 (some 167)) 12 4 (some 175)), I, L))) (b := true) rfl rfl ?_
  have hF := hF.uR (c := 12) (i := 4) (v := some 175) (by decide)
  have g0 := upR_o (c := 12) (i := 4) (v := some 175) rfl g0
  have g1 := upR_o (c := 12) (i := 4) (v := some 175) rfl g1
  refine Rc.goL mt_600 1 (f2 := (78, [.ref 12, .int (10 : Int32)], [.int (26 : Int32), .ref 12], (176, (upR (upR (rn_800_167 (upR (rn_800_159 (upR (rn_800_151 (upR (rn_800_143 (upR (rn_800_135 (upR (rn_800_127 (upR (rn_800_119 (upR (rn_800_111 (upR (rn_800_103 (upR (rn_800_95 (upR (rn_800_87 (upR (rn_800_79 (upR (rn_800_71 (upR (rn_800_63 (upR (rn_800_55 (upR (rn_800_47 (upR (rn_800_39 (upR (rn_800_31 (upR (rn_800_23 (upR (rn_800_15 (upR (upR R 12 0 (some 13)) 12 1 (some 14))) 13 0 (some 15))) 14 0 (some 23))) 13 1 (some 31))) 14 1 (some 39))) 13 2 (some 47))) 14 2 (some 55))) 13 3 (some 63))) 14 3 (some 71))) 13 4 (some 79))) 14 4 (some 87))) 13 5 (some 95))) 14 5 (some 103))) 13 6 (some 111))) 14 6 (some 119))) 13 7 (some 127))) 14 7 (some 135))) 13 8 (some 143))) 14 8 (some 151))) 13 9 (some 159))) 14 9 (some 167)) 12 4 (some 175)), I, L))) (b := true) rfl rfl ?_
  refine Rc.goL mt_600 0 (f2 := (80, [.ref 12, .int (10 : Int32)], [.ref 176, .ref 12], nw (176, (upR (upR (rn_800_167 (upR (rn_800_159 (upR (rn_800_151 (upR (rn_800_143 (upR (rn_800_135 (upR (rn_800_127 (upR (rn_800_119 (upR (rn_800_111 (upR (rn_800_103 (upR (rn_800_95 (upR (rn_800_87 (upR (rn_800_79 (upR (rn_800_71 (upR (rn_800_63 (upR (rn_800_55 (upR (rn_800_47 (upR (rn_800_39 (upR (rn_800_31 (upR (rn_800_23 (upR (rn_800_15 (upR (upR R 12 0 (some 13)) 12 1 (some 14))) 13 0 (some 15))) 14 0 (some 23))) 13 1 (some 31))) 14 1 (some 39))) 13 2 (some 47))) 14 2 (some 55))) 13 3 (some 63))) 14 3 (some 71))) 13 4 (some 79))) 14 4 (some 87))) 13 5 (some 95))) 14 5 (some 103))) 13 6 (some 111))) 14 6 (some 119))) 13 7 (some 127))) 14 7 (some 135))) 13 8 (some 143))) 14 8 (some 151))) 13 9 (some 159))) 14 9 (some 167)) 12 4 (some 175)), I, L))) (b := ((Nat.beq (K0 176) (kAT .long) && decide (¬ (26 : Int32) < 0) && Nat.beq (Int32.toNatClampNeg (26 : Int32)) (Z0 176)) && true)) rfl (by decide +kernel) ?_
  rw [(hF.mk1 (m := 177) rfl (by decide)).1]
  have hF := (hF.mk1 (m := 177) rfl (by decide)).2
  refine Rc.goL mt_600 0 (f2 := (83, [.ref 12, .int (10 : Int32)], [], (177, (upR (upR (upR (rn_800_167 (upR (rn_800_159 (upR (rn_800_151 (upR (rn_800_143 (upR (rn_800_135 (upR (rn_800_127 (upR (rn_800_119 (upR (rn_800_111 (upR (rn_800_103 (upR (rn_800_95 (upR (rn_800_87 (upR (rn_800_79 (upR (rn_800_71 (upR (rn_800_63 (upR (rn_800_55 (upR (rn_800_47 (upR (rn_800_39 (upR (rn_800_31 (upR (rn_800_23 (upR (rn_800_15 (upR (upR R 12 0 (some 13)) 12 1 (some 14))) 13 0 (some 15))) 14 0 (some 23))) 13 1 (some 31))) 14 1 (some 39))) 13 2 (some 47))) 14 2 (some 55))) 13 3 (some 63))) 14 3 (some 71))) 13 4 (some 79))) 14 4 (some 87))) 13 5 (some 95))) 14 5 (some 103))) 13 6 (some 111))) 14 6 (some 119))) 13 7 (some 127))) 14 7 (some 135))) 13 8 (some 143))) 14 8 (some 151))) 13 9 (some 159))) 14 9 (some 167)) 12 4 (some 175)) 12 5 (some 176)), I, L))) (b := true) rfl rfl ?_
  have hF := hF.uR (c := 12) (i := 5) (v := some 176) (by decide)
  have g0 := upR_o (c := 12) (i := 5) (v := some 176) rfl g0
  have g1 := upR_o (c := 12) (i := 5) (v := some 176) rfl g1
  refine Rc.goL mt_600 1 (f2 := (86, [.ref 12, .int (10 : Int32)], [.int (26 : Int32), .ref 12], (177, (upR (upR (upR (rn_800_167 (upR (rn_800_159 (upR (rn_800_151 (upR (rn_800_143 (upR (rn_800_135 (upR (rn_800_127 (upR (rn_800_119 (upR (rn_800_111 (upR (rn_800_103 (upR (rn_800_95 (upR (rn_800_87 (upR (rn_800_79 (upR (rn_800_71 (upR (rn_800_63 (upR (rn_800_55 (upR (rn_800_47 (upR (rn_800_39 (upR (rn_800_31 (upR (rn_800_23 (upR (rn_800_15 (upR (upR R 12 0 (some 13)) 12 1 (some 14))) 13 0 (some 15))) 14 0 (some 23))) 13 1 (some 31))) 14 1 (some 39))) 13 2 (some 47))) 14 2 (some 55))) 13 3 (some 63))) 14 3 (some 71))) 13 4 (some 79))) 14 4 (some 87))) 13 5 (some 95))) 14 5 (some 103))) 13 6 (some 111))) 14 6 (some 119))) 13 7 (some 127))) 14 7 (some 135))) 13 8 (some 143))) 14 8 (some 151))) 13 9 (some 159))) 14 9 (some 167)) 12 4 (some 175)) 12 5 (some 176)), I, L))) (b := true) rfl rfl ?_
  refine Rc.goL mt_600 0 (f2 := (88, [.ref 12, .int (10 : Int32)], [.ref 177, .ref 12], nw (177, (upR (upR (upR (rn_800_167 (upR (rn_800_159 (upR (rn_800_151 (upR (rn_800_143 (upR (rn_800_135 (upR (rn_800_127 (upR (rn_800_119 (upR (rn_800_111 (upR (rn_800_103 (upR (rn_800_95 (upR (rn_800_87 (upR (rn_800_79 (upR (rn_800_71 (upR (rn_800_63 (upR (rn_800_55 (upR (rn_800_47 (upR (rn_800_39 (upR (rn_800_31 (upR (rn_800_23 (upR (rn_800_15 (upR (upR R 12 0 (some 13)) 12 1 (some 14))) 13 0 (some 15))) 14 0 (some 23))) 13 1 (some 31))) 14 1 (some 39))) 13 2 (some 47))) 14 2 (some 55))) 13 3 (some 63))) 14 3 (some 71))) 13 4 (some 79))) 14 4 (some 87))) 13 5 (some 95))) 14 5 (some 103))) 13 6 (some 111))) 14 6 (some 119))) 13 7 (some 127))) 14 7 (some 135))) 13 8 (some 143))) 14 8 (some 151))) 13 9 (some 159))) 14 9 (some 167)) 12 4 (some 175)) 12 5 (some 176)), I, L))) (b := ((Nat.beq (K0 177) (kAT .long) && decide (¬ (26 : Int32) < 0) && Nat.beq (Int32.toNatClampNeg (26 : Int32)) (Z0 177)) && true)) rfl (by decide +kernel) ?_
  rw [(hF.mk1 (m := 178) rfl (by decide)).1]
  have hF := (hF.mk1 (m := 178) rfl (by decide)).2
  refine Rc.goL mt_600 0 (f2 := (91, [.ref 12, .int (10 : Int32)], [], (178, (upR (upR (upR (upR (rn_800_167 (upR (rn_800_159 (upR (rn_800_151 (upR (rn_800_143 (upR (rn_800_135 (upR (rn_800_127 (upR (rn_800_119 (upR (rn_800_111 (upR (rn_800_103 (upR (rn_800_95 (upR (rn_800_87 (upR (rn_800_79 (upR (rn_800_71 (upR (rn_800_63 (upR (rn_800_55 (upR (rn_800_47 (upR (rn_800_39 (upR (rn_800_31 (upR (rn_800_23 (upR (rn_800_15 (upR (upR R 12 0 (some 13)) 12 1 (some 14))) 13 0 (some 15))) 14 0 (some 23))) 13 1 (some 31))) 14 1 (some 39))) 13 2 (some 47))) 14 2 (some 55))) 13 3 (some 63))) 14 3 (some 71))) 13 4 (some 79))) 14 4 (some 87))) 13 5 (some 95))) 14 5 (some 103))) 13 6 (some 111))) 14 6 (some 119))) 13 7 (some 127))) 14 7 (some 135))) 13 8 (some 143))) 14 8 (some 151))) 13 9 (some 159))) 14 9 (some 167)) 12 4 (some 175)) 12 5 (some 176)) 12 6 (some 177)), I, L))) (b := true) rfl rfl ?_
  have hF := hF.uR (c := 12) (i := 6) (v := some 177) (by decide)
  have g0 := upR_o (c := 12) (i := 6) (v := some 177) rfl g0
  have g1 := upR_o (c := 12) (i := 6) (v := some 177) rfl g1
  refine Rc.goL mt_600 1 (f2 := (95, [.ref 12, .int (10 : Int32)], [.int (200 : Int32), .ref 12], (178, (upR (upR (upR (upR (rn_800_167 (upR (rn_800_159 (upR (rn_800_151 (upR (rn_800_143 (upR (rn_800_135 (upR (rn_800_127 (upR (rn_800_119 (upR (rn_800_111 (upR (rn_800_103 (upR (rn_800_95 (upR (rn_800_87 (upR (rn_800_79 (upR (rn_800_71 (upR (rn_800_63 (upR (rn_800_55 (upR (rn_800_47 (upR (rn_800_39 (upR (rn_800_31 (upR (rn_800_23 (upR (rn_800_15 (upR (upR R 12 0 (some 13)) 12 1 (some 14))) 13 0 (some 15))) 14 0 (some 23))) 13 1 (some 31))) 14 1 (some 39))) 13 2 (some 47))) 14 2 (some 55))) 13 3 (some 63))) 14 3 (some 71))) 13 4 (some 79))) 14 4 (some 87))) 13 5 (some 95))) 14 5 (some 103))) 13 6 (some 111))) 14 6 (some 119))) 13 7 (some 127))) 14 7 (some 135))) 13 8 (some 143))) 14 8 (some 151))) 13 9 (some 159))) 14 9 (some 167)) 12 4 (some 175)) 12 5 (some 176)) 12 6 (some 177)), I, L))) (b := true) rfl rfl ?_
  refine Rc.goL mt_600 0 (f2 := (97, [.ref 12, .int (10 : Int32)], [.ref 178, .ref 12], nw (178, (upR (upR (upR (upR (rn_800_167 (upR (rn_800_159 (upR (rn_800_151 (upR (rn_800_143 (upR (rn_800_135 (upR (rn_800_127 (upR (rn_800_119 (upR (rn_800_111 (upR (rn_800_103 (upR (rn_800_95 (upR (rn_800_87 (upR (rn_800_79 (upR (rn_800_71 (upR (rn_800_63 (upR (rn_800_55 (upR (rn_800_47 (upR (rn_800_39 (upR (rn_800_31 (upR (rn_800_23 (upR (rn_800_15 (upR (upR R 12 0 (some 13)) 12 1 (some 14))) 13 0 (some 15))) 14 0 (some 23))) 13 1 (some 31))) 14 1 (some 39))) 13 2 (some 47))) 14 2 (some 55))) 13 3 (some 63))) 14 3 (some 71))) 13 4 (some 79))) 14 4 (some 87))) 13 5 (some 95))) 14 5 (some 103))) 13 6 (some 111))) 14 6 (some 119))) 13 7 (some 127))) 14 7 (some 135))) 13 8 (some 143))) 14 8 (some 151))) 13 9 (some 159))) 14 9 (some 167)) 12 4 (some 175)) 12 5 (some 176)) 12 6 (some 177)), I, L))) (b := ((Nat.beq (K0 178) (kAT .long) && decide (¬ (200 : Int32) < 0) && Nat.beq (Int32.toNatClampNeg (200 : Int32)) (Z0 178)) && true)) rfl (by decide +kernel) ?_
  rw [(hF.mk1 (m := 179) rfl (by decide)).1]
  have hF := (hF.mk1 (m := 179) rfl (by decide)).2
  refine Rc.goL mt_600 0 (f2 := (100, [.ref 12, .int (10 : Int32)], [], (179, (upR (upR (upR (upR (upR (rn_800_167 (upR (rn_800_159 (upR (rn_800_151 (upR (rn_800_143 (upR (rn_800_135 (upR (rn_800_127 (upR (rn_800_119 (upR (rn_800_111 (upR (rn_800_103 (upR (rn_800_95 (upR (rn_800_87 (upR (rn_800_79 (upR (rn_800_71 (upR (rn_800_63 (upR (rn_800_55 (upR (rn_800_47 (upR (rn_800_39 (upR (rn_800_31 (upR (rn_800_23 (upR (rn_800_15 (upR (upR R 12 0 (some 13)) 12 1 (some 14))) 13 0 (some 15))) 14 0 (some 23))) 13 1 (some 31))) 14 1 (some 39))) 13 2 (some 47))) 14 2 (some 55))) 13 3 (some 63))) 14 3 (some 71))) 13 4 (some 79))) 14 4 (some 87))) 13 5 (some 95))) 14 5 (some 103))) 13 6 (some 111))) 14 6 (some 119))) 13 7 (some 127))) 14 7 (some 135))) 13 8 (some 143))) 14 8 (some 151))) 13 9 (some 159))) 14 9 (some 167)) 12 4 (some 175)) 12 5 (some 176)) 12 6 (some 177)) 12 7 (some 178)), I, L))) (b := true) rfl rfl ?_
  have hF := hF.uR (c := 12) (i := 7) (v := some 178) (by decide)
  have g0 := upR_o (c := 12) (i := 7) (v := some 178) rfl g0
  have g1 := upR_o (c := 12) (i := 7) (v := some 178) rfl g1
  exact Rc.ret (v := none) rfl rfl
theorem mt_1000 : MT 1000 K_1000 LN_10 := ⟨rfl, rfl, by decide +kernel⟩
theorem okm_1000 : OKm 1000 := ⟨⟨vE_1000, okL_10, by decide +kernel⟩, by decide +kernel, by decide +kernel, by decide +kernel⟩
def rn_1000 (R : MR) : MR := (upR (mnR (upR (mnR (upR (upR (upR (upR (upR (upR R 179 4 (some 180)) 179 5 (some 181)) 179 6 (some 182)) 179 7 (some 183)) 179 8 (some 184)) 179 9 (some 185)) 186 16) 179 10 (some 186)) 203 6) 179 11 (some 203))
def in_1000 (I : MI) : MI := (fiI (fiI (fiI (fiI (fiI (fiI I 204 520 (-1)) 205 520 (-1)) 206 520 (-1)) 207 520 (-1)) 208 520 (-1)) 209 520 (-1))
theorem cf_1000 {R : MR} {I : MI} {L : ML} (hF : FM 180 R I L) : FM 210 (rn_1000 R) (in_1000 I) L := by
  have hF := (hF.mk1 (m := 181) rfl (by decide)).2
  have hF := hF.uR (c := 179) (i := 4) (v := some 180) (by decide)
  have hF := (hF.mk1 (m := 182) rfl (by decide)).2
  have hF := hF.uR (c := 179) (i := 5) (v := some 181) (by decide)
  have hF := (hF.mk1 (m := 183) rfl (by decide)).2
  have hF := hF.uR (c := 179) (i := 6) (v := some 182) (by decide)
  have hF := (hF.mk1 (m := 184) rfl (by decide)).2
  have hF := hF.uR (c := 179) (i := 7) (v := some 183) (by decide)
  have hF := (hF.mk1 (m := 185) rfl (by decide)).2
  have hF := hF.uR (c := 179) (i := 8) (v := some 184) (by decide)
  have hF := (hF.mk1 (m := 186) rfl (by decide)).2
  have hF := hF.uR (c := 179) (i := 9) (v := some 185) (by decide)
  have hF := (hF.mkm 16 (m := 203) rfl (by decide)).2
  have hF := hF.uR (c := 179) (i := 10) (v := some 186) (by decide)
  have hF := (hF.mkm 6 (m := 210) rfl (by decide)).2
  have hF := hF.uR (c := 179) (i := 11) (v := some 203) (by decide)
  have hF := hF.fi (c := 204) (N := 520) (v := -1) (by decide)
  have hF := hF.fi (c := 205) (N := 520) (v := -1) (by decide)
  have hF := hF.fi (c := 206) (N := 520) (v := -1) (by decide)
  have hF := hF.fi (c := 207) (N := 520) (v := -1) (by decide)
  have hF := hF.fi (c := 208) (N := 520) (v := -1) (by decide)
  have hF := hF.fi (c := 209) (N := 520) (v := -1) (by decide)
  exact hF
set_option maxRecDepth 20000 in
theorem cn_1000 {d : Nat} (hd : 2 ≤ d) {R : MR} {I : MI} {L : ML} (hF : FM 180 R I L) : Ex d 1000 [.ref 179] (180, R, I, L) (none, (210, rn_1000 R, (in_1000 I), L)) := by
  obtain ⟨d, rfl⟩ : ∃ d0, d = d0 + 1 := ⟨d - 1, by omega⟩
  refine Ex.of okm_1000 (by omega) (Nat.le_of_ble_eq_true rfl) ?_
  show Rc (d + 1) 1000 (0, [.ref 179, UU], [], (180, R, I, L)) _
  refine Rc.goL mt_1000 3 (f2 := (7, [.ref 179, UU], [.int (6 : Int32), .ref 179], (180, R, I, L))) (b := true) rfl rfl ?_
  refine Rc.goL mt_1000 0 (f2 := (9, [.ref 179, UU], [.ref 180, .ref 179], nw (180, R, I, L))) (b := ((Nat.beq (K0 180) (kAT .int) && decide (¬ (6 : Int32) < 0) && Nat.beq (Int32.toNatClampNeg (6 : Int32)) (Z0 180)) && true)) rfl (by decide +kernel) ?_
  rw [(hF.mk1 (m := 181) rfl (by decide)).1]
  have hF := (hF.mk1 (m := 181) rfl (by decide)).2
  refine Rc.goL mt_1000 0 (f2 := (12, [.ref 179, UU], [], (181, (upR R 179 4 (some 180)), I, L))) (b := true) rfl rfl ?_
  have hF := hF.uR (c := 179) (i := 4) (v := some 180) (by decide)
  refine Rc.goL mt_1000 1 (f2 := (15, [.ref 179, UU], [.int (6 : Int32), .ref 179], (181, (upR R 179 4 (some 180)), I, L))) (b := true) rfl rfl ?_
  refine Rc.goL mt_1000 0 (f2 := (17, [.ref 179, UU], [.ref 181, .ref 179], nw (181, (upR R 179 4 (some 180)), I, L))) (b := ((Nat.beq (K0 181) (kAT .int) && decide (¬ (6 : Int32) < 0) && Nat.beq (Int32.toNatClampNeg (6 : Int32)) (Z0 181)) && true)) rfl (by decide +kernel) ?_
  rw [(hF.mk1 (m := 182) rfl (by decide)).1]
  have hF := (hF.mk1 (m := 182) rfl (by decide)).2
  refine Rc.goL mt_1000 0 (f2 := (20, [.ref 179, UU], [], (182, (upR (upR R 179 4 (some 180)) 179 5 (some 181)), I, L))) (b := true) rfl rfl ?_
  have hF := hF.uR (c := 179) (i := 5) (v := some 181) (by decide)
  refine Rc.goL mt_1000 1 (f2 := (23, [.ref 179, UU], [.int (12 : Int32), .ref 179], (182, (upR (upR R 179 4 (some 180)) 179 5 (some 181)), I, L))) (b := true) rfl rfl ?_
  refine Rc.goL mt_1000 0 (f2 := (25, [.ref 179, UU], [.ref 182, .ref 179], nw (182, (upR (upR R 179 4 (some 180)) 179 5 (some 181)), I, L))) (b := ((Nat.beq (K0 182) (kAT .int) && decide (¬ (12 : Int32) < 0) && Nat.beq (Int32.toNatClampNeg (12 : Int32)) (Z0 182)) && true)) rfl (by decide +kernel) ?_
  rw [(hF.mk1 (m := 183) rfl (by decide)).1]
  have hF := (hF.mk1 (m := 183) rfl (by decide)).2
  refine Rc.goL mt_1000 0 (f2 := (28, [.ref 179, UU], [], (183, (upR (upR (upR R 179 4 (some 180)) 179 5 (some 181)) 179 6 (some 182)), I, L))) (b := true) rfl rfl ?_
  have hF := hF.uR (c := 179) (i := 6) (v := some 182) (by decide)
  refine Rc.goL mt_1000 1 (f2 := (31, [.ref 179, UU], [.int (16 : Int32), .ref 179], (183, (upR (upR (upR R 179 4 (some 180)) 179 5 (some 181)) 179 6 (some 182)), I, L))) (b := true) rfl rfl ?_
  refine Rc.goL mt_1000 0 (f2 := (33, [.ref 179, UU], [.ref 183, .ref 179], nw (183, (upR (upR (upR R 179 4 (some 180)) 179 5 (some 181)) 179 6 (some 182)), I, L))) (b := ((Nat.beq (K0 183) (kAT .int) && decide (¬ (16 : Int32) < 0) && Nat.beq (Int32.toNatClampNeg (16 : Int32)) (Z0 183)) && true)) rfl (by decide +kernel) ?_
  rw [(hF.mk1 (m := 184) rfl (by decide)).1]
  have hF := (hF.mk1 (m := 184) rfl (by decide)).2
  refine Rc.goL mt_1000 0 (f2 := (36, [.ref 179, UU], [], (184, (upR (upR (upR (upR R 179 4 (some 180)) 179 5 (some 181)) 179 6 (some 182)) 179 7 (some 183)), I, L))) (b := true) rfl rfl ?_
  have hF := hF.uR (c := 179) (i := 7) (v := some 183) (by decide)
  refine Rc.goL mt_1000 1 (f2 := (39, [.ref 179, UU], [.int (16 : Int32), .ref 179], (184, (upR (upR (upR (upR R 179 4 (some 180)) 179 5 (some 181)) 179 6 (some 182)) 179 7 (some 183)), I, L))) (b := true) rfl rfl ?_
  refine Rc.goL mt_1000 0 (f2 := (41, [.ref 179, UU], [.ref 184, .ref 179], nw (184, (upR (upR (upR (upR R 179 4 (some 180)) 179 5 (some 181)) 179 6 (some 182)) 179 7 (some 183)), I, L))) (b := ((Nat.beq (K0 184) (kAT .int) && decide (¬ (16 : Int32) < 0) && Nat.beq (Int32.toNatClampNeg (16 : Int32)) (Z0 184)) && true)) rfl (by decide +kernel) ?_
  rw [(hF.mk1 (m := 185) rfl (by decide)).1]
  have hF := (hF.mk1 (m := 185) rfl (by decide)).2
  refine Rc.goL mt_1000 0 (f2 := (44, [.ref 179, UU], [], (185, (upR (upR (upR (upR (upR R 179 4 (some 180)) 179 5 (some 181)) 179 6 (some 182)) 179 7 (some 183)) 179 8 (some 184)), I, L))) (b := true) rfl rfl ?_
  have hF := hF.uR (c := 179) (i := 8) (v := some 184) (by decide)
  refine Rc.goL mt_1000 1 (f2 := (47, [.ref 179, UU], [.int (16 : Int32), .ref 179], (185, (upR (upR (upR (upR (upR R 179 4 (some 180)) 179 5 (some 181)) 179 6 (some 182)) 179 7 (some 183)) 179 8 (some 184)), I, L))) (b := true) rfl rfl ?_
  refine Rc.goL mt_1000 0 (f2 := (49, [.ref 179, UU], [.ref 185, .ref 179], nw (185, (upR (upR (upR (upR (upR R 179 4 (some 180)) 179 5 (some 181)) 179 6 (some 182)) 179 7 (some 183)) 179 8 (some 184)), I, L))) (b := ((Nat.beq (K0 185) (kAT .int) && decide (¬ (16 : Int32) < 0) && Nat.beq (Int32.toNatClampNeg (16 : Int32)) (Z0 185)) && true)) rfl (by decide +kernel) ?_
  rw [(hF.mk1 (m := 186) rfl (by decide)).1]
  have hF := (hF.mk1 (m := 186) rfl (by decide)).2
  refine Rc.goL mt_1000 0 (f2 := (52, [.ref 179, UU], [], (186, (upR (upR (upR (upR (upR (upR R 179 4 (some 180)) 179 5 (some 181)) 179 6 (some 182)) 179 7 (some 183)) 179 8 (some 184)) 179 9 (some 185)), I, L))) (b := true) rfl rfl ?_
  have hF := hF.uR (c := 179) (i := 9) (v := some 185) (by decide)
  refine Rc.goL mt_1000 2 (f2 := (58, [.ref 179, UU], [.int (520 : Int32), .int (16 : Int32), .ref 179], (186, (upR (upR (upR (upR (upR (upR R 179 4 (some 180)) 179 5 (some 181)) 179 6 (some 182)) 179 7 (some 183)) 179 8 (some 184)) 179 9 (some 185)), I, L))) (b := true) rfl rfl ?_
  refine Rc.goL mt_1000 0 (f2 := (62, [.ref 179, UU], [.ref 186, .ref 179], nwm 16 (186, (upR (upR (upR (upR (upR (upR R 179 4 (some 180)) 179 5 (some 181)) 179 6 (some 182)) 179 7 (some 183)) 179 8 (some 184)) 179 9 (some 185)), I, L))) (b := ((Nat.beq (15 : Nat) 15 && Nat.beq (K0 186) 26 && decide (¬ (16 : Int32) < 0) && decide (¬ (520 : Int32) < 0) && Nat.beq (Int32.toNatClampNeg (16 : Int32)) (Z0 186) && (List.range (Z0 186)).all (fun j => Nat.beq (K0 (186 + 1 + j)) 20 && Nat.beq (Z0 (186 + 1 + j)) (Int32.toNatClampNeg (520 : Int32)))) && true)) rfl (by decide +kernel) ?_
  rw [(hF.mkm 16 (m := 203) rfl (by decide)).1]
  have hF := (hF.mkm 16 (m := 203) rfl (by decide)).2
  refine Rc.goL mt_1000 0 (f2 := (65, [.ref 179, UU], [], (203, (upR (mnR (upR (upR (upR (upR (upR (upR R 179 4 (some 180)) 179 5 (some 181)) 179 6 (some 182)) 179 7 (some 183)) 179 8 (some 184)) 179 9 (some 185)) 186 16) 179 10 (some 186)), I, L))) (b := true) rfl rfl ?_
  have hF := hF.uR (c := 179) (i := 10) (v := some 186) (by decide)
  refine Rc.goL mt_1000 2 (f2 := (71, [.ref 179, UU], [.int (520 : Int32), .int (6 : Int32), .ref 179], (203, (upR (mnR (upR (upR (upR (upR (upR (upR R 179 4 (some 180)) 179 5 (some 181)) 179 6 (some 182)) 179 7 (some 183)) 179 8 (some 184)) 179 9 (some 185)) 186 16) 179 10 (some 186)), I, L))) (b := true) rfl rfl ?_
  refine Rc.goL mt_1000 0 (f2 := (75, [.ref 179, UU], [.ref 203, .ref 179], nwm 6 (203, (upR (mnR (upR (upR (upR (upR (upR (upR R 179 4 (some 180)) 179 5 (some 181)) 179 6 (some 182)) 179 7 (some 183)) 179 8 (some 184)) 179 9 (some 185)) 186 16) 179 10 (some 186)), I, L))) (b := ((Nat.beq (15 : Nat) 15 && Nat.beq (K0 203) 26 && decide (¬ (6 : Int32) < 0) && decide (¬ (520 : Int32) < 0) && Nat.beq (Int32.toNatClampNeg (6 : Int32)) (Z0 203) && (List.range (Z0 203)).all (fun j => Nat.beq (K0 (203 + 1 + j)) 20 && Nat.beq (Z0 (203 + 1 + j)) (Int32.toNatClampNeg (520 : Int32)))) && true)) rfl (by decide +kernel) ?_
  rw [(hF.mkm 6 (m := 210) rfl (by decide)).1]
  have hF := (hF.mkm 6 (m := 210) rfl (by decide)).2
  refine Rc.goL mt_1000 0 (f2 := (78, [.ref 179, UU], [], (210, (upR (mnR (upR (mnR (upR (upR (upR (upR (upR (upR R 179 4 (some 180)) 179 5 (some 181)) 179 6 (some 182)) 179 7 (some 183)) 179 8 (some 184)) 179 9 (some 185)) 186 16) 179 10 (some 186)) 203 6) 179 11 (some 203)), I, L))) (b := true) rfl rfl ?_
  have hF := hF.uR (c := 179) (i := 11) (v := some 203) (by decide)
  refine Rc.goL mt_1000 4 (f2 := ((if (0 : Int32) < (6 : Int32) then 86 else 103), [.ref 179, .int (0 : Int32)], [], (210, (upR (mnR (upR (mnR (upR (upR (upR (upR (upR (upR R 179 4 (some 180)) 179 5 (some 181)) 179 6 (some 182)) 179 7 (some 183)) 179 8 (some 184)) 179 9 (some 185)) 186 16) 179 10 (some 186)) 203 6) 179 11 (some 203)), I, L))) (b := true) rfl rfl ?_
  rw [if_pos (by decide)]
  refine Rc.goL mt_1000 5 (f2 := (94, [.ref 179, .int (0 : Int32)], [.int (-1 : Int32), .int (0 : Int32), .ref 204], (210, (upR (mnR (upR (mnR (upR (upR (upR (upR (upR (upR R 179 4 (some 180)) 179 5 (some 181)) 179 6 (some 182)) 179 7 (some 183)) 179 8 (some 184)) 179 9 (some 185)) 186 16) 179 10 (some 186)) 203 6) 179 11 (some 203)), I, L))) (b := true) rfl rfl ?_
  refine Rc.callS (i := 38) (mid' := 1001) (av := [.ref 204, .int (0 : Int32), .int (-1 : Int32)]) (rest := []) (v := none) (M1 := (210, (upR (mnR (upR (mnR (upR (upR (upR (upR (upR (upR R 179 4 (some 180)) 179 5 (some 181)) 179 6 (some 182)) 179 7 (some 183)) 179 8 (some 184)) 179 9 (some 185)) 186 16) 179 10 (some 186)) 203 6) 179 11 (some 203)), (fiI I 204 520 (-1)), L)) rfl (Or.inl rfl) rfl cw_1001 rfl (Nat.le_of_ble_eq_true rfl) (fill_g (by omega) (by decide) rfl rfl (by decide)) ?_
  have hF := hF.fi (c := 204) (N := 520) (v := -1) (by decide)
  refine Rc.goL mt_1000 0 (f2 := (100, [.ref 179, .int ((0 : Int32) + 1)], [], (210, (upR (mnR (upR (mnR (upR (upR (upR (upR (upR (upR R 179 4 (some 180)) 179 5 (some 181)) 179 6 (some 182)) 179 7 (some 183)) 179 8 (some 184)) 179 9 (some 185)) 186 16) 179 10 (some 186)) 203 6) 179 11 (some 203)), (fiI I 204 520 (-1)), L))) (b := true) rfl rfl ?_
  rw [show (0 : Int32) + 1 = 1 from by decide]
  refine Rc.goL mt_1000 0 (f2 := (80, [.ref 179, .int (1 : Int32)], [], (210, (upR (mnR (upR (mnR (upR (upR (upR (upR (upR (upR R 179 4 (some 180)) 179 5 (some 181)) 179 6 (some 182)) 179 7 (some 183)) 179 8 (some 184)) 179 9 (some 185)) 186 16) 179 10 (some 186)) 203 6) 179 11 (some 203)), (fiI I 204 520 (-1)), L))) (b := true) rfl rfl ?_
  refine Rc.goL mt_1000 2 (f2 := ((if (1 : Int32) < (6 : Int32) then 86 else 103), [.ref 179, .int (1 : Int32)], [], (210, (upR (mnR (upR (mnR (upR (upR (upR (upR (upR (upR R 179 4 (some 180)) 179 5 (some 181)) 179 6 (some 182)) 179 7 (some 183)) 179 8 (some 184)) 179 9 (some 185)) 186 16) 179 10 (some 186)) 203 6) 179 11 (some 203)), (fiI I 204 520 (-1)), L))) (b := true) rfl rfl ?_
  rw [if_pos (by decide)]
  refine Rc.goL mt_1000 5 (f2 := (94, [.ref 179, .int (1 : Int32)], [.int (-1 : Int32), .int (0 : Int32), .ref 205], (210, (upR (mnR (upR (mnR (upR (upR (upR (upR (upR (upR R 179 4 (some 180)) 179 5 (some 181)) 179 6 (some 182)) 179 7 (some 183)) 179 8 (some 184)) 179 9 (some 185)) 186 16) 179 10 (some 186)) 203 6) 179 11 (some 203)), (fiI I 204 520 (-1)), L))) (b := true) rfl rfl ?_
  refine Rc.callS (i := 38) (mid' := 1001) (av := [.ref 205, .int (0 : Int32), .int (-1 : Int32)]) (rest := []) (v := none) (M1 := (210, (upR (mnR (upR (mnR (upR (upR (upR (upR (upR (upR R 179 4 (some 180)) 179 5 (some 181)) 179 6 (some 182)) 179 7 (some 183)) 179 8 (some 184)) 179 9 (some 185)) 186 16) 179 10 (some 186)) 203 6) 179 11 (some 203)), (fiI (fiI I 204 520 (-1)) 205 520 (-1)), L)) rfl (Or.inl rfl) rfl cw_1001 rfl (Nat.le_of_ble_eq_true rfl) (fill_g (by omega) (by decide) rfl rfl (by decide)) ?_
  have hF := hF.fi (c := 205) (N := 520) (v := -1) (by decide)
  refine Rc.goL mt_1000 0 (f2 := (100, [.ref 179, .int ((1 : Int32) + 1)], [], (210, (upR (mnR (upR (mnR (upR (upR (upR (upR (upR (upR R 179 4 (some 180)) 179 5 (some 181)) 179 6 (some 182)) 179 7 (some 183)) 179 8 (some 184)) 179 9 (some 185)) 186 16) 179 10 (some 186)) 203 6) 179 11 (some 203)), (fiI (fiI I 204 520 (-1)) 205 520 (-1)), L))) (b := true) rfl rfl ?_
  rw [show (1 : Int32) + 1 = 2 from by decide]
  refine Rc.goL mt_1000 0 (f2 := (80, [.ref 179, .int (2 : Int32)], [], (210, (upR (mnR (upR (mnR (upR (upR (upR (upR (upR (upR R 179 4 (some 180)) 179 5 (some 181)) 179 6 (some 182)) 179 7 (some 183)) 179 8 (some 184)) 179 9 (some 185)) 186 16) 179 10 (some 186)) 203 6) 179 11 (some 203)), (fiI (fiI I 204 520 (-1)) 205 520 (-1)), L))) (b := true) rfl rfl ?_
  refine Rc.goL mt_1000 2 (f2 := ((if (2 : Int32) < (6 : Int32) then 86 else 103), [.ref 179, .int (2 : Int32)], [], (210, (upR (mnR (upR (mnR (upR (upR (upR (upR (upR (upR R 179 4 (some 180)) 179 5 (some 181)) 179 6 (some 182)) 179 7 (some 183)) 179 8 (some 184)) 179 9 (some 185)) 186 16) 179 10 (some 186)) 203 6) 179 11 (some 203)), (fiI (fiI I 204 520 (-1)) 205 520 (-1)), L))) (b := true) rfl rfl ?_
  rw [if_pos (by decide)]
  refine Rc.goL mt_1000 5 (f2 := (94, [.ref 179, .int (2 : Int32)], [.int (-1 : Int32), .int (0 : Int32), .ref 206], (210, (upR (mnR (upR (mnR (upR (upR (upR (upR (upR (upR R 179 4 (some 180)) 179 5 (some 181)) 179 6 (some 182)) 179 7 (some 183)) 179 8 (some 184)) 179 9 (some 185)) 186 16) 179 10 (some 186)) 203 6) 179 11 (some 203)), (fiI (fiI I 204 520 (-1)) 205 520 (-1)), L))) (b := true) rfl rfl ?_
  refine Rc.callS (i := 38) (mid' := 1001) (av := [.ref 206, .int (0 : Int32), .int (-1 : Int32)]) (rest := []) (v := none) (M1 := (210, (upR (mnR (upR (mnR (upR (upR (upR (upR (upR (upR R 179 4 (some 180)) 179 5 (some 181)) 179 6 (some 182)) 179 7 (some 183)) 179 8 (some 184)) 179 9 (some 185)) 186 16) 179 10 (some 186)) 203 6) 179 11 (some 203)), (fiI (fiI (fiI I 204 520 (-1)) 205 520 (-1)) 206 520 (-1)), L)) rfl (Or.inl rfl) rfl cw_1001 rfl (Nat.le_of_ble_eq_true rfl) (fill_g (by omega) (by decide) rfl rfl (by decide)) ?_
  have hF := hF.fi (c := 206) (N := 520) (v := -1) (by decide)
  refine Rc.goL mt_1000 0 (f2 := (100, [.ref 179, .int ((2 : Int32) + 1)], [], (210, (upR (mnR (upR (mnR (upR (upR (upR (upR (upR (upR R 179 4 (some 180)) 179 5 (some 181)) 179 6 (some 182)) 179 7 (some 183)) 179 8 (some 184)) 179 9 (some 185)) 186 16) 179 10 (some 186)) 203 6) 179 11 (some 203)), (fiI (fiI (fiI I 204 520 (-1)) 205 520 (-1)) 206 520 (-1)), L))) (b := true) rfl rfl ?_
  rw [show (2 : Int32) + 1 = 3 from by decide]
  refine Rc.goL mt_1000 0 (f2 := (80, [.ref 179, .int (3 : Int32)], [], (210, (upR (mnR (upR (mnR (upR (upR (upR (upR (upR (upR R 179 4 (some 180)) 179 5 (some 181)) 179 6 (some 182)) 179 7 (some 183)) 179 8 (some 184)) 179 9 (some 185)) 186 16) 179 10 (some 186)) 203 6) 179 11 (some 203)), (fiI (fiI (fiI I 204 520 (-1)) 205 520 (-1)) 206 520 (-1)), L))) (b := true) rfl rfl ?_
  refine Rc.goL mt_1000 2 (f2 := ((if (3 : Int32) < (6 : Int32) then 86 else 103), [.ref 179, .int (3 : Int32)], [], (210, (upR (mnR (upR (mnR (upR (upR (upR (upR (upR (upR R 179 4 (some 180)) 179 5 (some 181)) 179 6 (some 182)) 179 7 (some 183)) 179 8 (some 184)) 179 9 (some 185)) 186 16) 179 10 (some 186)) 203 6) 179 11 (some 203)), (fiI (fiI (fiI I 204 520 (-1)) 205 520 (-1)) 206 520 (-1)), L))) (b := true) rfl rfl ?_
  rw [if_pos (by decide)]
  refine Rc.goL mt_1000 5 (f2 := (94, [.ref 179, .int (3 : Int32)], [.int (-1 : Int32), .int (0 : Int32), .ref 207], (210, (upR (mnR (upR (mnR (upR (upR (upR (upR (upR (upR R 179 4 (some 180)) 179 5 (some 181)) 179 6 (some 182)) 179 7 (some 183)) 179 8 (some 184)) 179 9 (some 185)) 186 16) 179 10 (some 186)) 203 6) 179 11 (some 203)), (fiI (fiI (fiI I 204 520 (-1)) 205 520 (-1)) 206 520 (-1)), L))) (b := true) rfl rfl ?_
  refine Rc.callS (i := 38) (mid' := 1001) (av := [.ref 207, .int (0 : Int32), .int (-1 : Int32)]) (rest := []) (v := none) (M1 := (210, (upR (mnR (upR (mnR (upR (upR (upR (upR (upR (upR R 179 4 (some 180)) 179 5 (some 181)) 179 6 (some 182)) 179 7 (some 183)) 179 8 (some 184)) 179 9 (some 185)) 186 16) 179 10 (some 186)) 203 6) 179 11 (some 203)), (fiI (fiI (fiI (fiI I 204 520 (-1)) 205 520 (-1)) 206 520 (-1)) 207 520 (-1)), L)) rfl (Or.inl rfl) rfl cw_1001 rfl (Nat.le_of_ble_eq_true rfl) (fill_g (by omega) (by decide) rfl rfl (by decide)) ?_
  have hF := hF.fi (c := 207) (N := 520) (v := -1) (by decide)
  refine Rc.goL mt_1000 0 (f2 := (100, [.ref 179, .int ((3 : Int32) + 1)], [], (210, (upR (mnR (upR (mnR (upR (upR (upR (upR (upR (upR R 179 4 (some 180)) 179 5 (some 181)) 179 6 (some 182)) 179 7 (some 183)) 179 8 (some 184)) 179 9 (some 185)) 186 16) 179 10 (some 186)) 203 6) 179 11 (some 203)), (fiI (fiI (fiI (fiI I 204 520 (-1)) 205 520 (-1)) 206 520 (-1)) 207 520 (-1)), L))) (b := true) rfl rfl ?_
  rw [show (3 : Int32) + 1 = 4 from by decide]
  refine Rc.goL mt_1000 0 (f2 := (80, [.ref 179, .int (4 : Int32)], [], (210, (upR (mnR (upR (mnR (upR (upR (upR (upR (upR (upR R 179 4 (some 180)) 179 5 (some 181)) 179 6 (some 182)) 179 7 (some 183)) 179 8 (some 184)) 179 9 (some 185)) 186 16) 179 10 (some 186)) 203 6) 179 11 (some 203)), (fiI (fiI (fiI (fiI I 204 520 (-1)) 205 520 (-1)) 206 520 (-1)) 207 520 (-1)), L))) (b := true) rfl rfl ?_
  refine Rc.goL mt_1000 2 (f2 := ((if (4 : Int32) < (6 : Int32) then 86 else 103), [.ref 179, .int (4 : Int32)], [], (210, (upR (mnR (upR (mnR (upR (upR (upR (upR (upR (upR R 179 4 (some 180)) 179 5 (some 181)) 179 6 (some 182)) 179 7 (some 183)) 179 8 (some 184)) 179 9 (some 185)) 186 16) 179 10 (some 186)) 203 6) 179 11 (some 203)), (fiI (fiI (fiI (fiI I 204 520 (-1)) 205 520 (-1)) 206 520 (-1)) 207 520 (-1)), L))) (b := true) rfl rfl ?_
  rw [if_pos (by decide)]
  refine Rc.goL mt_1000 5 (f2 := (94, [.ref 179, .int (4 : Int32)], [.int (-1 : Int32), .int (0 : Int32), .ref 208], (210, (upR (mnR (upR (mnR (upR (upR (upR (upR (upR (upR R 179 4 (some 180)) 179 5 (some 181)) 179 6 (some 182)) 179 7 (some 183)) 179 8 (some 184)) 179 9 (some 185)) 186 16) 179 10 (some 186)) 203 6) 179 11 (some 203)), (fiI (fiI (fiI (fiI I 204 520 (-1)) 205 520 (-1)) 206 520 (-1)) 207 520 (-1)), L))) (b := true) rfl rfl ?_
  refine Rc.callS (i := 38) (mid' := 1001) (av := [.ref 208, .int (0 : Int32), .int (-1 : Int32)]) (rest := []) (v := none) (M1 := (210, (upR (mnR (upR (mnR (upR (upR (upR (upR (upR (upR R 179 4 (some 180)) 179 5 (some 181)) 179 6 (some 182)) 179 7 (some 183)) 179 8 (some 184)) 179 9 (some 185)) 186 16) 179 10 (some 186)) 203 6) 179 11 (some 203)), (fiI (fiI (fiI (fiI (fiI I 204 520 (-1)) 205 520 (-1)) 206 520 (-1)) 207 520 (-1)) 208 520 (-1)), L)) rfl (Or.inl rfl) rfl cw_1001 rfl (Nat.le_of_ble_eq_true rfl) (fill_g (by omega) (by decide) rfl rfl (by decide)) ?_
  have hF := hF.fi (c := 208) (N := 520) (v := -1) (by decide)
  refine Rc.goL mt_1000 0 (f2 := (100, [.ref 179, .int ((4 : Int32) + 1)], [], (210, (upR (mnR (upR (mnR (upR (upR (upR (upR (upR (upR R 179 4 (some 180)) 179 5 (some 181)) 179 6 (some 182)) 179 7 (some 183)) 179 8 (some 184)) 179 9 (some 185)) 186 16) 179 10 (some 186)) 203 6) 179 11 (some 203)), (fiI (fiI (fiI (fiI (fiI I 204 520 (-1)) 205 520 (-1)) 206 520 (-1)) 207 520 (-1)) 208 520 (-1)), L))) (b := true) rfl rfl ?_
  rw [show (4 : Int32) + 1 = 5 from by decide]
  refine Rc.goL mt_1000 0 (f2 := (80, [.ref 179, .int (5 : Int32)], [], (210, (upR (mnR (upR (mnR (upR (upR (upR (upR (upR (upR R 179 4 (some 180)) 179 5 (some 181)) 179 6 (some 182)) 179 7 (some 183)) 179 8 (some 184)) 179 9 (some 185)) 186 16) 179 10 (some 186)) 203 6) 179 11 (some 203)), (fiI (fiI (fiI (fiI (fiI I 204 520 (-1)) 205 520 (-1)) 206 520 (-1)) 207 520 (-1)) 208 520 (-1)), L))) (b := true) rfl rfl ?_
  refine Rc.goL mt_1000 2 (f2 := ((if (5 : Int32) < (6 : Int32) then 86 else 103), [.ref 179, .int (5 : Int32)], [], (210, (upR (mnR (upR (mnR (upR (upR (upR (upR (upR (upR R 179 4 (some 180)) 179 5 (some 181)) 179 6 (some 182)) 179 7 (some 183)) 179 8 (some 184)) 179 9 (some 185)) 186 16) 179 10 (some 186)) 203 6) 179 11 (some 203)), (fiI (fiI (fiI (fiI (fiI I 204 520 (-1)) 205 520 (-1)) 206 520 (-1)) 207 520 (-1)) 208 520 (-1)), L))) (b := true) rfl rfl ?_
  rw [if_pos (by decide)]
  refine Rc.goL mt_1000 5 (f2 := (94, [.ref 179, .int (5 : Int32)], [.int (-1 : Int32), .int (0 : Int32), .ref 209], (210, (upR (mnR (upR (mnR (upR (upR (upR (upR (upR (upR R 179 4 (some 180)) 179 5 (some 181)) 179 6 (some 182)) 179 7 (some 183)) 179 8 (some 184)) 179 9 (some 185)) 186 16) 179 10 (some 186)) 203 6) 179 11 (some 203)), (fiI (fiI (fiI (fiI (fiI I 204 520 (-1)) 205 520 (-1)) 206 520 (-1)) 207 520 (-1)) 208 520 (-1)), L))) (b := true) rfl rfl ?_
  refine Rc.callS (i := 38) (mid' := 1001) (av := [.ref 209, .int (0 : Int32), .int (-1 : Int32)]) (rest := []) (v := none) (M1 := (210, (upR (mnR (upR (mnR (upR (upR (upR (upR (upR (upR R 179 4 (some 180)) 179 5 (some 181)) 179 6 (some 182)) 179 7 (some 183)) 179 8 (some 184)) 179 9 (some 185)) 186 16) 179 10 (some 186)) 203 6) 179 11 (some 203)), (fiI (fiI (fiI (fiI (fiI (fiI I 204 520 (-1)) 205 520 (-1)) 206 520 (-1)) 207 520 (-1)) 208 520 (-1)) 209 520 (-1)), L)) rfl (Or.inl rfl) rfl cw_1001 rfl (Nat.le_of_ble_eq_true rfl) (fill_g (by omega) (by decide) rfl rfl (by decide)) ?_
  have hF := hF.fi (c := 209) (N := 520) (v := -1) (by decide)
  refine Rc.goL mt_1000 0 (f2 := (100, [.ref 179, .int ((5 : Int32) + 1)], [], (210, (upR (mnR (upR (mnR (upR (upR (upR (upR (upR (upR R 179 4 (some 180)) 179 5 (some 181)) 179 6 (some 182)) 179 7 (some 183)) 179 8 (some 184)) 179 9 (some 185)) 186 16) 179 10 (some 186)) 203 6) 179 11 (some 203)), (fiI (fiI (fiI (fiI (fiI (fiI I 204 520 (-1)) 205 520 (-1)) 206 520 (-1)) 207 520 (-1)) 208 520 (-1)) 209 520 (-1)), L))) (b := true) rfl rfl ?_
  rw [show (5 : Int32) + 1 = 6 from by decide]
  refine Rc.goL mt_1000 0 (f2 := (80, [.ref 179, .int (6 : Int32)], [], (210, (upR (mnR (upR (mnR (upR (upR (upR (upR (upR (upR R 179 4 (some 180)) 179 5 (some 181)) 179 6 (some 182)) 179 7 (some 183)) 179 8 (some 184)) 179 9 (some 185)) 186 16) 179 10 (some 186)) 203 6) 179 11 (some 203)), (fiI (fiI (fiI (fiI (fiI (fiI I 204 520 (-1)) 205 520 (-1)) 206 520 (-1)) 207 520 (-1)) 208 520 (-1)) 209 520 (-1)), L))) (b := true) rfl rfl ?_
  refine Rc.goL mt_1000 2 (f2 := ((if (6 : Int32) < (6 : Int32) then 86 else 103), [.ref 179, .int (6 : Int32)], [], (210, (upR (mnR (upR (mnR (upR (upR (upR (upR (upR (upR R 179 4 (some 180)) 179 5 (some 181)) 179 6 (some 182)) 179 7 (some 183)) 179 8 (some 184)) 179 9 (some 185)) 186 16) 179 10 (some 186)) 203 6) 179 11 (some 203)), (fiI (fiI (fiI (fiI (fiI (fiI I 204 520 (-1)) 205 520 (-1)) 206 520 (-1)) 207 520 (-1)) 208 520 (-1)) 209 520 (-1)), L))) (b := true) rfl rfl ?_
  rw [if_neg (by decide)]
  exact Rc.ret (v := none) rfl rfl
theorem mt_200 : MT 200 K_200 LN_2 := ⟨rfl, rfl, by decide +kernel⟩
theorem okm_200 : OKm 200 := ⟨⟨vE_200, okL_2, by decide +kernel⟩, by decide +kernel, by decide +kernel, by decide +kernel⟩
set_option maxRecDepth 20000 in
theorem lw_200_49_0_l {d : Nat} {R : MR} {I : MI} {L : ML} {res : Option Value × GM} (h0 : R 210 3 = some 221) (h1 : R 221 0 = some 222) (hk : Rc d 200 (71, [.ref 210, .int (0 : Int32), .int (520 : Int32)], [], (238, R, fiI I 222 520 (-1), L)) res) : ∀ (k j : Nat), j + k = 520 → Rc d 200 (49, [.ref 210, .int (0 : Int32), .int (Int32.ofNat j)], [], (238, R, fiI I 222 j (-1), L)) res := by
  intro k
  induction k with
  | zero =>
    intro j hj
    have hj : j = 520 := by omega
    subst hj
    refine Rc.goL mt_200 2 (f2 := (71, [.ref 210, .int (0 : Int32), .int (520 : Int32)], [], (238, R, fiI I 222 520 (-1), L))) (b := true) rfl rfl ?_
    exact hk
  | succ k ih =>
    intro j hj
    refine Rc.goL mt_200 2 (f2 := (if Int32.ofNat j < (520 : Int32) then 56 else 71, [.ref 210, .int (0 : Int32), .int (Int32.ofNat j)], [], (238, R, fiI I 222 j (-1), L))) (b := true) rfl rfl ?_
    rw [if_pos (i_lt (by rw [show Int32.toInt (520 : Int32) = 520 from by decide]; omega))]
    refine Rc.goL mt_200 1 (f2 := (60, [.ref 210, .int (0 : Int32), .int (Int32.ofNat j)], [rv (R 210 3)], (238, R, fiI I 222 j (-1), L))) (b := true) rfl rfl ?_
    rw [h0]
    refine Rc.goL mt_200 1 (f2 := (62, [.ref 210, .int (0 : Int32), .int (Int32.ofNat j)], [rv (R 221 (Int32.toNatClampNeg (0 : Int32)))], (238, R, fiI I 222 j (-1), L))) (b := true) rfl rfl ?_
    rw [show (Int32.toNatClampNeg (0 : Int32)) = 0 from by decide, h1]
    refine Rc.goL mt_200 2 (f2 := (65, [.ref 210, .int (0 : Int32), .int (Int32.ofNat j)], [], (238, R, upI (fiI I 222 j (-1)) 222 (Int32.toNatClampNeg (Int32.ofNat j)) (-1), L))) (b := (ib 520 (Int32.ofNat j) && true)) rfl (and_i (i_ib (by omega) (by decide)) rfl) ?_
    rw [i_clamp (by omega), fiI_s]
    refine Rc.goL mt_200 1 (f2 := (49, [.ref 210, .int (0 : Int32), .int ((Int32.ofNat j) + 1)], [], (238, R, fiI I 222 (j + 1) (-1), L))) (b := true) rfl rfl ?_
    rw [i_succ]
    exact ih (j + 1) (by omega)
theorem lw_200_49_0 {d : Nat} {R : MR} {I : MI} {L : ML} {res : Option Value × GM} (h0 : R 210 3 = some 221) (h1 : R 221 0 = some 222) (hk : Rc d 200 (71, [.ref 210, .int (0 : Int32), .int (520 : Int32)], [], (238, R, fiI I 222 520 (-1), L)) res) : Rc d 200 (49, [.ref 210, .int (0 : Int32), .int (0 : Int32)], [], (238, R, I, L)) res := by
  have h := lw_200_49_0_l (d := d) (R := R) (I := I) (L := L) (res := res) h0 h1 hk 520 0 (by omega)
  rwa [fiI_0] at h
set_option maxRecDepth 20000 in
theorem lw_200_49_1_l {d : Nat} {R : MR} {I : MI} {L : ML} {res : Option Value × GM} (h0 : R 210 3 = some 221) (h1 : R 221 1 = some 223) (hk : Rc d 200 (71, [.ref 210, .int (1 : Int32), .int (520 : Int32)], [], (238, R, fiI I 223 520 (-1), L)) res) : ∀ (k j : Nat), j + k = 520 → Rc d 200 (49, [.ref 210, .int (1 : Int32), .int (Int32.ofNat j)], [], (238, R, fiI I 223 j (-1), L)) res := by
  intro k
  induction k with
  | zero =>
    intro j hj
    have hj : j = 520 := by omega
    subst hj
    refine Rc.goL mt_200 2 (f2 := (71, [.ref 210, .int (1 : Int32), .int (520 : Int32)], [], (238, R, fiI I 223 520 (-1), L))) (b := true) rfl rfl ?_
    exact hk
  | succ k ih =>
    intro j hj
    refine Rc.goL mt_200 2 (f2 := (if Int32.ofNat j < (520 : Int32) then 56 else 71, [.ref 210, .int (1 : Int32), .int (Int32.ofNat j)], [], (238, R, fiI I 223 j (-1), L))) (b := true) rfl rfl ?_
    rw [if_pos (i_lt (by rw [show Int32.toInt (520 : Int32) = 520 from by decide]; omega))]
    refine Rc.goL mt_200 1 (f2 := (60, [.ref 210, .int (1 : Int32), .int (Int32.ofNat j)], [rv (R 210 3)], (238, R, fiI I 223 j (-1), L))) (b := true) rfl rfl ?_
    rw [h0]
    refine Rc.goL mt_200 1 (f2 := (62, [.ref 210, .int (1 : Int32), .int (Int32.ofNat j)], [rv (R 221 (Int32.toNatClampNeg (1 : Int32)))], (238, R, fiI I 223 j (-1), L))) (b := true) rfl rfl ?_
    rw [show (Int32.toNatClampNeg (1 : Int32)) = 1 from by decide, h1]
    refine Rc.goL mt_200 2 (f2 := (65, [.ref 210, .int (1 : Int32), .int (Int32.ofNat j)], [], (238, R, upI (fiI I 223 j (-1)) 223 (Int32.toNatClampNeg (Int32.ofNat j)) (-1), L))) (b := (ib 520 (Int32.ofNat j) && true)) rfl (and_i (i_ib (by omega) (by decide)) rfl) ?_
    rw [i_clamp (by omega), fiI_s]
    refine Rc.goL mt_200 1 (f2 := (49, [.ref 210, .int (1 : Int32), .int ((Int32.ofNat j) + 1)], [], (238, R, fiI I 223 (j + 1) (-1), L))) (b := true) rfl rfl ?_
    rw [i_succ]
    exact ih (j + 1) (by omega)
theorem lw_200_49_1 {d : Nat} {R : MR} {I : MI} {L : ML} {res : Option Value × GM} (h0 : R 210 3 = some 221) (h1 : R 221 1 = some 223) (hk : Rc d 200 (71, [.ref 210, .int (1 : Int32), .int (520 : Int32)], [], (238, R, fiI I 223 520 (-1), L)) res) : Rc d 200 (49, [.ref 210, .int (1 : Int32), .int (0 : Int32)], [], (238, R, I, L)) res := by
  have h := lw_200_49_1_l (d := d) (R := R) (I := I) (L := L) (res := res) h0 h1 hk 520 0 (by omega)
  rwa [fiI_0] at h
set_option maxRecDepth 20000 in
theorem lw_200_49_2_l {d : Nat} {R : MR} {I : MI} {L : ML} {res : Option Value × GM} (h0 : R 210 3 = some 221) (h1 : R 221 2 = some 224) (hk : Rc d 200 (71, [.ref 210, .int (2 : Int32), .int (520 : Int32)], [], (238, R, fiI I 224 520 (-1), L)) res) : ∀ (k j : Nat), j + k = 520 → Rc d 200 (49, [.ref 210, .int (2 : Int32), .int (Int32.ofNat j)], [], (238, R, fiI I 224 j (-1), L)) res := by
  intro k
  induction k with
  | zero =>
    intro j hj
    have hj : j = 520 := by omega
    subst hj
    refine Rc.goL mt_200 2 (f2 := (71, [.ref 210, .int (2 : Int32), .int (520 : Int32)], [], (238, R, fiI I 224 520 (-1), L))) (b := true) rfl rfl ?_
    exact hk
  | succ k ih =>
    intro j hj
    refine Rc.goL mt_200 2 (f2 := (if Int32.ofNat j < (520 : Int32) then 56 else 71, [.ref 210, .int (2 : Int32), .int (Int32.ofNat j)], [], (238, R, fiI I 224 j (-1), L))) (b := true) rfl rfl ?_
    rw [if_pos (i_lt (by rw [show Int32.toInt (520 : Int32) = 520 from by decide]; omega))]
    refine Rc.goL mt_200 1 (f2 := (60, [.ref 210, .int (2 : Int32), .int (Int32.ofNat j)], [rv (R 210 3)], (238, R, fiI I 224 j (-1), L))) (b := true) rfl rfl ?_
    rw [h0]
    refine Rc.goL mt_200 1 (f2 := (62, [.ref 210, .int (2 : Int32), .int (Int32.ofNat j)], [rv (R 221 (Int32.toNatClampNeg (2 : Int32)))], (238, R, fiI I 224 j (-1), L))) (b := true) rfl rfl ?_
    rw [show (Int32.toNatClampNeg (2 : Int32)) = 2 from by decide, h1]
    refine Rc.goL mt_200 2 (f2 := (65, [.ref 210, .int (2 : Int32), .int (Int32.ofNat j)], [], (238, R, upI (fiI I 224 j (-1)) 224 (Int32.toNatClampNeg (Int32.ofNat j)) (-1), L))) (b := (ib 520 (Int32.ofNat j) && true)) rfl (and_i (i_ib (by omega) (by decide)) rfl) ?_
    rw [i_clamp (by omega), fiI_s]
    refine Rc.goL mt_200 1 (f2 := (49, [.ref 210, .int (2 : Int32), .int ((Int32.ofNat j) + 1)], [], (238, R, fiI I 224 (j + 1) (-1), L))) (b := true) rfl rfl ?_
    rw [i_succ]
    exact ih (j + 1) (by omega)
theorem lw_200_49_2 {d : Nat} {R : MR} {I : MI} {L : ML} {res : Option Value × GM} (h0 : R 210 3 = some 221) (h1 : R 221 2 = some 224) (hk : Rc d 200 (71, [.ref 210, .int (2 : Int32), .int (520 : Int32)], [], (238, R, fiI I 224 520 (-1), L)) res) : Rc d 200 (49, [.ref 210, .int (2 : Int32), .int (0 : Int32)], [], (238, R, I, L)) res := by
  have h := lw_200_49_2_l (d := d) (R := R) (I := I) (L := L) (res := res) h0 h1 hk 520 0 (by omega)
  rwa [fiI_0] at h
set_option maxRecDepth 20000 in
theorem lw_200_49_3_l {d : Nat} {R : MR} {I : MI} {L : ML} {res : Option Value × GM} (h0 : R 210 3 = some 221) (h1 : R 221 3 = some 225) (hk : Rc d 200 (71, [.ref 210, .int (3 : Int32), .int (520 : Int32)], [], (238, R, fiI I 225 520 (-1), L)) res) : ∀ (k j : Nat), j + k = 520 → Rc d 200 (49, [.ref 210, .int (3 : Int32), .int (Int32.ofNat j)], [], (238, R, fiI I 225 j (-1), L)) res := by
  intro k
  induction k with
  | zero =>
    intro j hj
    have hj : j = 520 := by omega
    subst hj
    refine Rc.goL mt_200 2 (f2 := (71, [.ref 210, .int (3 : Int32), .int (520 : Int32)], [], (238, R, fiI I 225 520 (-1), L))) (b := true) rfl rfl ?_
    exact hk
  | succ k ih =>
    intro j hj
    refine Rc.goL mt_200 2 (f2 := (if Int32.ofNat j < (520 : Int32) then 56 else 71, [.ref 210, .int (3 : Int32), .int (Int32.ofNat j)], [], (238, R, fiI I 225 j (-1), L))) (b := true) rfl rfl ?_
    rw [if_pos (i_lt (by rw [show Int32.toInt (520 : Int32) = 520 from by decide]; omega))]
    refine Rc.goL mt_200 1 (f2 := (60, [.ref 210, .int (3 : Int32), .int (Int32.ofNat j)], [rv (R 210 3)], (238, R, fiI I 225 j (-1), L))) (b := true) rfl rfl ?_
    rw [h0]
    refine Rc.goL mt_200 1 (f2 := (62, [.ref 210, .int (3 : Int32), .int (Int32.ofNat j)], [rv (R 221 (Int32.toNatClampNeg (3 : Int32)))], (238, R, fiI I 225 j (-1), L))) (b := true) rfl rfl ?_
    rw [show (Int32.toNatClampNeg (3 : Int32)) = 3 from by decide, h1]
    refine Rc.goL mt_200 2 (f2 := (65, [.ref 210, .int (3 : Int32), .int (Int32.ofNat j)], [], (238, R, upI (fiI I 225 j (-1)) 225 (Int32.toNatClampNeg (Int32.ofNat j)) (-1), L))) (b := (ib 520 (Int32.ofNat j) && true)) rfl (and_i (i_ib (by omega) (by decide)) rfl) ?_
    rw [i_clamp (by omega), fiI_s]
    refine Rc.goL mt_200 1 (f2 := (49, [.ref 210, .int (3 : Int32), .int ((Int32.ofNat j) + 1)], [], (238, R, fiI I 225 (j + 1) (-1), L))) (b := true) rfl rfl ?_
    rw [i_succ]
    exact ih (j + 1) (by omega)
theorem lw_200_49_3 {d : Nat} {R : MR} {I : MI} {L : ML} {res : Option Value × GM} (h0 : R 210 3 = some 221) (h1 : R 221 3 = some 225) (hk : Rc d 200 (71, [.ref 210, .int (3 : Int32), .int (520 : Int32)], [], (238, R, fiI I 225 520 (-1), L)) res) : Rc d 200 (49, [.ref 210, .int (3 : Int32), .int (0 : Int32)], [], (238, R, I, L)) res := by
  have h := lw_200_49_3_l (d := d) (R := R) (I := I) (L := L) (res := res) h0 h1 hk 520 0 (by omega)
  rwa [fiI_0] at h
set_option maxRecDepth 20000 in
theorem lw_200_49_4_l {d : Nat} {R : MR} {I : MI} {L : ML} {res : Option Value × GM} (h0 : R 210 3 = some 221) (h1 : R 221 4 = some 226) (hk : Rc d 200 (71, [.ref 210, .int (4 : Int32), .int (520 : Int32)], [], (238, R, fiI I 226 520 (-1), L)) res) : ∀ (k j : Nat), j + k = 520 → Rc d 200 (49, [.ref 210, .int (4 : Int32), .int (Int32.ofNat j)], [], (238, R, fiI I 226 j (-1), L)) res := by
  intro k
  induction k with
  | zero =>
    intro j hj
    have hj : j = 520 := by omega
    subst hj
    refine Rc.goL mt_200 2 (f2 := (71, [.ref 210, .int (4 : Int32), .int (520 : Int32)], [], (238, R, fiI I 226 520 (-1), L))) (b := true) rfl rfl ?_
    exact hk
  | succ k ih =>
    intro j hj
    refine Rc.goL mt_200 2 (f2 := (if Int32.ofNat j < (520 : Int32) then 56 else 71, [.ref 210, .int (4 : Int32), .int (Int32.ofNat j)], [], (238, R, fiI I 226 j (-1), L))) (b := true) rfl rfl ?_
    rw [if_pos (i_lt (by rw [show Int32.toInt (520 : Int32) = 520 from by decide]; omega))]
    refine Rc.goL mt_200 1 (f2 := (60, [.ref 210, .int (4 : Int32), .int (Int32.ofNat j)], [rv (R 210 3)], (238, R, fiI I 226 j (-1), L))) (b := true) rfl rfl ?_
    rw [h0]
    refine Rc.goL mt_200 1 (f2 := (62, [.ref 210, .int (4 : Int32), .int (Int32.ofNat j)], [rv (R 221 (Int32.toNatClampNeg (4 : Int32)))], (238, R, fiI I 226 j (-1), L))) (b := true) rfl rfl ?_
    rw [show (Int32.toNatClampNeg (4 : Int32)) = 4 from by decide, h1]
    refine Rc.goL mt_200 2 (f2 := (65, [.ref 210, .int (4 : Int32), .int (Int32.ofNat j)], [], (238, R, upI (fiI I 226 j (-1)) 226 (Int32.toNatClampNeg (Int32.ofNat j)) (-1), L))) (b := (ib 520 (Int32.ofNat j) && true)) rfl (and_i (i_ib (by omega) (by decide)) rfl) ?_
    rw [i_clamp (by omega), fiI_s]
    refine Rc.goL mt_200 1 (f2 := (49, [.ref 210, .int (4 : Int32), .int ((Int32.ofNat j) + 1)], [], (238, R, fiI I 226 (j + 1) (-1), L))) (b := true) rfl rfl ?_
    rw [i_succ]
    exact ih (j + 1) (by omega)
theorem lw_200_49_4 {d : Nat} {R : MR} {I : MI} {L : ML} {res : Option Value × GM} (h0 : R 210 3 = some 221) (h1 : R 221 4 = some 226) (hk : Rc d 200 (71, [.ref 210, .int (4 : Int32), .int (520 : Int32)], [], (238, R, fiI I 226 520 (-1), L)) res) : Rc d 200 (49, [.ref 210, .int (4 : Int32), .int (0 : Int32)], [], (238, R, I, L)) res := by
  have h := lw_200_49_4_l (d := d) (R := R) (I := I) (L := L) (res := res) h0 h1 hk 520 0 (by omega)
  rwa [fiI_0] at h
set_option maxRecDepth 20000 in
theorem lw_200_49_5_l {d : Nat} {R : MR} {I : MI} {L : ML} {res : Option Value × GM} (h0 : R 210 3 = some 221) (h1 : R 221 5 = some 227) (hk : Rc d 200 (71, [.ref 210, .int (5 : Int32), .int (520 : Int32)], [], (238, R, fiI I 227 520 (-1), L)) res) : ∀ (k j : Nat), j + k = 520 → Rc d 200 (49, [.ref 210, .int (5 : Int32), .int (Int32.ofNat j)], [], (238, R, fiI I 227 j (-1), L)) res := by
  intro k
  induction k with
  | zero =>
    intro j hj
    have hj : j = 520 := by omega
    subst hj
    refine Rc.goL mt_200 2 (f2 := (71, [.ref 210, .int (5 : Int32), .int (520 : Int32)], [], (238, R, fiI I 227 520 (-1), L))) (b := true) rfl rfl ?_
    exact hk
  | succ k ih =>
    intro j hj
    refine Rc.goL mt_200 2 (f2 := (if Int32.ofNat j < (520 : Int32) then 56 else 71, [.ref 210, .int (5 : Int32), .int (Int32.ofNat j)], [], (238, R, fiI I 227 j (-1), L))) (b := true) rfl rfl ?_
    rw [if_pos (i_lt (by rw [show Int32.toInt (520 : Int32) = 520 from by decide]; omega))]
    refine Rc.goL mt_200 1 (f2 := (60, [.ref 210, .int (5 : Int32), .int (Int32.ofNat j)], [rv (R 210 3)], (238, R, fiI I 227 j (-1), L))) (b := true) rfl rfl ?_
    rw [h0]
    refine Rc.goL mt_200 1 (f2 := (62, [.ref 210, .int (5 : Int32), .int (Int32.ofNat j)], [rv (R 221 (Int32.toNatClampNeg (5 : Int32)))], (238, R, fiI I 227 j (-1), L))) (b := true) rfl rfl ?_
    rw [show (Int32.toNatClampNeg (5 : Int32)) = 5 from by decide, h1]
    refine Rc.goL mt_200 2 (f2 := (65, [.ref 210, .int (5 : Int32), .int (Int32.ofNat j)], [], (238, R, upI (fiI I 227 j (-1)) 227 (Int32.toNatClampNeg (Int32.ofNat j)) (-1), L))) (b := (ib 520 (Int32.ofNat j) && true)) rfl (and_i (i_ib (by omega) (by decide)) rfl) ?_
    rw [i_clamp (by omega), fiI_s]
    refine Rc.goL mt_200 1 (f2 := (49, [.ref 210, .int (5 : Int32), .int ((Int32.ofNat j) + 1)], [], (238, R, fiI I 227 (j + 1) (-1), L))) (b := true) rfl rfl ?_
    rw [i_succ]
    exact ih (j + 1) (by omega)
theorem lw_200_49_5 {d : Nat} {R : MR} {I : MI} {L : ML} {res : Option Value × GM} (h0 : R 210 3 = some 221) (h1 : R 221 5 = some 227) (hk : Rc d 200 (71, [.ref 210, .int (5 : Int32), .int (520 : Int32)], [], (238, R, fiI I 227 520 (-1), L)) res) : Rc d 200 (49, [.ref 210, .int (5 : Int32), .int (0 : Int32)], [], (238, R, I, L)) res := by
  have h := lw_200_49_5_l (d := d) (R := R) (I := I) (L := L) (res := res) h0 h1 hk 520 0 (by omega)
  rwa [fiI_0] at h
set_option maxRecDepth 20000 in
theorem lw_200_49_6_l {d : Nat} {R : MR} {I : MI} {L : ML} {res : Option Value × GM} (h0 : R 210 3 = some 221) (h1 : R 221 6 = some 228) (hk : Rc d 200 (71, [.ref 210, .int (6 : Int32), .int (520 : Int32)], [], (238, R, fiI I 228 520 (-1), L)) res) : ∀ (k j : Nat), j + k = 520 → Rc d 200 (49, [.ref 210, .int (6 : Int32), .int (Int32.ofNat j)], [], (238, R, fiI I 228 j (-1), L)) res := by
  intro k
  induction k with
  | zero =>
    intro j hj
    have hj : j = 520 := by omega
    subst hj
    refine Rc.goL mt_200 2 (f2 := (71, [.ref 210, .int (6 : Int32), .int (520 : Int32)], [], (238, R, fiI I 228 520 (-1), L))) (b := true) rfl rfl ?_
    exact hk
  | succ k ih =>
    intro j hj
    refine Rc.goL mt_200 2 (f2 := (if Int32.ofNat j < (520 : Int32) then 56 else 71, [.ref 210, .int (6 : Int32), .int (Int32.ofNat j)], [], (238, R, fiI I 228 j (-1), L))) (b := true) rfl rfl ?_
    rw [if_pos (i_lt (by rw [show Int32.toInt (520 : Int32) = 520 from by decide]; omega))]
    refine Rc.goL mt_200 1 (f2 := (60, [.ref 210, .int (6 : Int32), .int (Int32.ofNat j)], [rv (R 210 3)], (238, R, fiI I 228 j (-1), L))) (b := true) rfl rfl ?_
    rw [h0]
    refine Rc.goL mt_200 1 (f2 := (62, [.ref 210, .int (6 : Int32), .int (Int32.ofNat j)], [rv (R 221 (Int32.toNatClampNeg (6 : Int32)))], (238, R, fiI I 228 j (-1), L))) (b := true) rfl rfl ?_
    rw [show (Int32.toNatClampNeg (6 : Int32)) = 6 from by decide, h1]
    refine Rc.goL mt_200 2 (f2 := (65, [.ref 210, .int (6 : Int32), .int (Int32.ofNat j)], [], (238, R, upI (fiI I 228 j (-1)) 228 (Int32.toNatClampNeg (Int32.ofNat j)) (-1), L))) (b := (ib 520 (Int32.ofNat j) && true)) rfl (and_i (i_ib (by omega) (by decide)) rfl) ?_
    rw [i_clamp (by omega), fiI_s]
    refine Rc.goL mt_200 1 (f2 := (49, [.ref 210, .int (6 : Int32), .int ((Int32.ofNat j) + 1)], [], (238, R, fiI I 228 (j + 1) (-1), L))) (b := true) rfl rfl ?_
    rw [i_succ]
    exact ih (j + 1) (by omega)
theorem lw_200_49_6 {d : Nat} {R : MR} {I : MI} {L : ML} {res : Option Value × GM} (h0 : R 210 3 = some 221) (h1 : R 221 6 = some 228) (hk : Rc d 200 (71, [.ref 210, .int (6 : Int32), .int (520 : Int32)], [], (238, R, fiI I 228 520 (-1), L)) res) : Rc d 200 (49, [.ref 210, .int (6 : Int32), .int (0 : Int32)], [], (238, R, I, L)) res := by
  have h := lw_200_49_6_l (d := d) (R := R) (I := I) (L := L) (res := res) h0 h1 hk 520 0 (by omega)
  rwa [fiI_0] at h
set_option maxRecDepth 20000 in
theorem lw_200_49_7_l {d : Nat} {R : MR} {I : MI} {L : ML} {res : Option Value × GM} (h0 : R 210 3 = some 221) (h1 : R 221 7 = some 229) (hk : Rc d 200 (71, [.ref 210, .int (7 : Int32), .int (520 : Int32)], [], (238, R, fiI I 229 520 (-1), L)) res) : ∀ (k j : Nat), j + k = 520 → Rc d 200 (49, [.ref 210, .int (7 : Int32), .int (Int32.ofNat j)], [], (238, R, fiI I 229 j (-1), L)) res := by
  intro k
  induction k with
  | zero =>
    intro j hj
    have hj : j = 520 := by omega
    subst hj
    refine Rc.goL mt_200 2 (f2 := (71, [.ref 210, .int (7 : Int32), .int (520 : Int32)], [], (238, R, fiI I 229 520 (-1), L))) (b := true) rfl rfl ?_
    exact hk
  | succ k ih =>
    intro j hj
    refine Rc.goL mt_200 2 (f2 := (if Int32.ofNat j < (520 : Int32) then 56 else 71, [.ref 210, .int (7 : Int32), .int (Int32.ofNat j)], [], (238, R, fiI I 229 j (-1), L))) (b := true) rfl rfl ?_
    rw [if_pos (i_lt (by rw [show Int32.toInt (520 : Int32) = 520 from by decide]; omega))]
    refine Rc.goL mt_200 1 (f2 := (60, [.ref 210, .int (7 : Int32), .int (Int32.ofNat j)], [rv (R 210 3)], (238, R, fiI I 229 j (-1), L))) (b := true) rfl rfl ?_
    rw [h0]
    refine Rc.goL mt_200 1 (f2 := (62, [.ref 210, .int (7 : Int32), .int (Int32.ofNat j)], [rv (R 221 (Int32.toNatClampNeg (7 : Int32)))], (238, R, fiI I 229 j (-1), L))) (b := true) rfl rfl ?_
    rw [show (Int32.toNatClampNeg (7 : Int32)) = 7 from by decide, h1]
    refine Rc.goL mt_200 2 (f2 := (65, [.ref 210, .int (7 : Int32), .int (Int32.ofNat j)], [], (238, R, upI (fiI I 229 j (-1)) 229 (Int32.toNatClampNeg (Int32.ofNat j)) (-1), L))) (b := (ib 520 (Int32.ofNat j) && true)) rfl (and_i (i_ib (by omega) (by decide)) rfl) ?_
    rw [i_clamp (by omega), fiI_s]
    refine Rc.goL mt_200 1 (f2 := (49, [.ref 210, .int (7 : Int32), .int ((Int32.ofNat j) + 1)], [], (238, R, fiI I 229 (j + 1) (-1), L))) (b := true) rfl rfl ?_
    rw [i_succ]
    exact ih (j + 1) (by omega)
theorem lw_200_49_7 {d : Nat} {R : MR} {I : MI} {L : ML} {res : Option Value × GM} (h0 : R 210 3 = some 221) (h1 : R 221 7 = some 229) (hk : Rc d 200 (71, [.ref 210, .int (7 : Int32), .int (520 : Int32)], [], (238, R, fiI I 229 520 (-1), L)) res) : Rc d 200 (49, [.ref 210, .int (7 : Int32), .int (0 : Int32)], [], (238, R, I, L)) res := by
  have h := lw_200_49_7_l (d := d) (R := R) (I := I) (L := L) (res := res) h0 h1 hk 520 0 (by omega)
  rwa [fiI_0] at h
set_option maxRecDepth 20000 in
theorem lw_200_49_8_l {d : Nat} {R : MR} {I : MI} {L : ML} {res : Option Value × GM} (h0 : R 210 3 = some 221) (h1 : R 221 8 = some 230) (hk : Rc d 200 (71, [.ref 210, .int (8 : Int32), .int (520 : Int32)], [], (238, R, fiI I 230 520 (-1), L)) res) : ∀ (k j : Nat), j + k = 520 → Rc d 200 (49, [.ref 210, .int (8 : Int32), .int (Int32.ofNat j)], [], (238, R, fiI I 230 j (-1), L)) res := by
  intro k
  induction k with
  | zero =>
    intro j hj
    have hj : j = 520 := by omega
    subst hj
    refine Rc.goL mt_200 2 (f2 := (71, [.ref 210, .int (8 : Int32), .int (520 : Int32)], [], (238, R, fiI I 230 520 (-1), L))) (b := true) rfl rfl ?_
    exact hk
  | succ k ih =>
    intro j hj
    refine Rc.goL mt_200 2 (f2 := (if Int32.ofNat j < (520 : Int32) then 56 else 71, [.ref 210, .int (8 : Int32), .int (Int32.ofNat j)], [], (238, R, fiI I 230 j (-1), L))) (b := true) rfl rfl ?_
    rw [if_pos (i_lt (by rw [show Int32.toInt (520 : Int32) = 520 from by decide]; omega))]
    refine Rc.goL mt_200 1 (f2 := (60, [.ref 210, .int (8 : Int32), .int (Int32.ofNat j)], [rv (R 210 3)], (238, R, fiI I 230 j (-1), L))) (b := true) rfl rfl ?_
    rw [h0]
    refine Rc.goL mt_200 1 (f2 := (62, [.ref 210, .int (8 : Int32), .int (Int32.ofNat j)], [rv (R 221 (Int32.toNatClampNeg (8 : Int32)))], (238, R, fiI I 230 j (-1), L))) (b := true) rfl rfl ?_
    rw [show (Int32.toNatClampNeg (8 : Int32)) = 8 from by decide, h1]
    refine Rc.goL mt_200 2 (f2 := (65, [.ref 210, .int (8 : Int32), .int (Int32.ofNat j)], [], (238, R, upI (fiI I 230 j (-1)) 230 (Int32.toNatClampNeg (Int32.ofNat j)) (-1), L))) (b := (ib 520 (Int32.ofNat j) && true)) rfl (and_i (i_ib (by omega) (by decide)) rfl) ?_
    rw [i_clamp (by omega), fiI_s]
    refine Rc.goL mt_200 1 (f2 := (49, [.ref 210, .int (8 : Int32), .int ((Int32.ofNat j) + 1)], [], (238, R, fiI I 230 (j + 1) (-1), L))) (b := true) rfl rfl ?_
    rw [i_succ]
    exact ih (j + 1) (by omega)
theorem lw_200_49_8 {d : Nat} {R : MR} {I : MI} {L : ML} {res : Option Value × GM} (h0 : R 210 3 = some 221) (h1 : R 221 8 = some 230) (hk : Rc d 200 (71, [.ref 210, .int (8 : Int32), .int (520 : Int32)], [], (238, R, fiI I 230 520 (-1), L)) res) : Rc d 200 (49, [.ref 210, .int (8 : Int32), .int (0 : Int32)], [], (238, R, I, L)) res := by
  have h := lw_200_49_8_l (d := d) (R := R) (I := I) (L := L) (res := res) h0 h1 hk 520 0 (by omega)
  rwa [fiI_0] at h
set_option maxRecDepth 20000 in
theorem lw_200_49_9_l {d : Nat} {R : MR} {I : MI} {L : ML} {res : Option Value × GM} (h0 : R 210 3 = some 221) (h1 : R 221 9 = some 231) (hk : Rc d 200 (71, [.ref 210, .int (9 : Int32), .int (520 : Int32)], [], (238, R, fiI I 231 520 (-1), L)) res) : ∀ (k j : Nat), j + k = 520 → Rc d 200 (49, [.ref 210, .int (9 : Int32), .int (Int32.ofNat j)], [], (238, R, fiI I 231 j (-1), L)) res := by
  intro k
  induction k with
  | zero =>
    intro j hj
    have hj : j = 520 := by omega
    subst hj
    refine Rc.goL mt_200 2 (f2 := (71, [.ref 210, .int (9 : Int32), .int (520 : Int32)], [], (238, R, fiI I 231 520 (-1), L))) (b := true) rfl rfl ?_
    exact hk
  | succ k ih =>
    intro j hj
    refine Rc.goL mt_200 2 (f2 := (if Int32.ofNat j < (520 : Int32) then 56 else 71, [.ref 210, .int (9 : Int32), .int (Int32.ofNat j)], [], (238, R, fiI I 231 j (-1), L))) (b := true) rfl rfl ?_
    rw [if_pos (i_lt (by rw [show Int32.toInt (520 : Int32) = 520 from by decide]; omega))]
    refine Rc.goL mt_200 1 (f2 := (60, [.ref 210, .int (9 : Int32), .int (Int32.ofNat j)], [rv (R 210 3)], (238, R, fiI I 231 j (-1), L))) (b := true) rfl rfl ?_
    rw [h0]
    refine Rc.goL mt_200 1 (f2 := (62, [.ref 210, .int (9 : Int32), .int (Int32.ofNat j)], [rv (R 221 (Int32.toNatClampNeg (9 : Int32)))], (238, R, fiI I 231 j (-1), L))) (b := true) rfl rfl ?_
    rw [show (Int32.toNatClampNeg (9 : Int32)) = 9 from by decide, h1]
    refine Rc.goL mt_200 2 (f2 := (65, [.ref 210, .int (9 : Int32), .int (Int32.ofNat j)], [], (238, R, upI (fiI I 231 j (-1)) 231 (Int32.toNatClampNeg (Int32.ofNat j)) (-1), L))) (b := (ib 520 (Int32.ofNat j) && true)) rfl (and_i (i_ib (by omega) (by decide)) rfl) ?_
    rw [i_clamp (by omega), fiI_s]
    refine Rc.goL mt_200 1 (f2 := (49, [.ref 210, .int (9 : Int32), .int ((Int32.ofNat j) + 1)], [], (238, R, fiI I 231 (j + 1) (-1), L))) (b := true) rfl rfl ?_
    rw [i_succ]
    exact ih (j + 1) (by omega)
theorem lw_200_49_9 {d : Nat} {R : MR} {I : MI} {L : ML} {res : Option Value × GM} (h0 : R 210 3 = some 221) (h1 : R 221 9 = some 231) (hk : Rc d 200 (71, [.ref 210, .int (9 : Int32), .int (520 : Int32)], [], (238, R, fiI I 231 520 (-1), L)) res) : Rc d 200 (49, [.ref 210, .int (9 : Int32), .int (0 : Int32)], [], (238, R, I, L)) res := by
  have h := lw_200_49_9_l (d := d) (R := R) (I := I) (L := L) (res := res) h0 h1 hk 520 0 (by omega)
  rwa [fiI_0] at h
set_option maxRecDepth 20000 in
theorem lw_200_49_10_l {d : Nat} {R : MR} {I : MI} {L : ML} {res : Option Value × GM} (h0 : R 210 3 = some 221) (h1 : R 221 10 = some 232) (hk : Rc d 200 (71, [.ref 210, .int (10 : Int32), .int (520 : Int32)], [], (238, R, fiI I 232 520 (-1), L)) res) : ∀ (k j : Nat), j + k = 520 → Rc d 200 (49, [.ref 210, .int (10 : Int32), .int (Int32.ofNat j)], [], (238, R, fiI I 232 j (-1), L)) res := by
  intro k
  induction k with
  | zero =>
    intro j hj
    have hj : j = 520 := by omega
    subst hj
    refine Rc.goL mt_200 2 (f2 := (71, [.ref 210, .int (10 : Int32), .int (520 : Int32)], [], (238, R, fiI I 232 520 (-1), L))) (b := true) rfl rfl ?_
    exact hk
  | succ k ih =>
    intro j hj
    refine Rc.goL mt_200 2 (f2 := (if Int32.ofNat j < (520 : Int32) then 56 else 71, [.ref 210, .int (10 : Int32), .int (Int32.ofNat j)], [], (238, R, fiI I 232 j (-1), L))) (b := true) rfl rfl ?_
    rw [if_pos (i_lt (by rw [show Int32.toInt (520 : Int32) = 520 from by decide]; omega))]
    refine Rc.goL mt_200 1 (f2 := (60, [.ref 210, .int (10 : Int32), .int (Int32.ofNat j)], [rv (R 210 3)], (238, R, fiI I 232 j (-1), L))) (b := true) rfl rfl ?_
    rw [h0]
    refine Rc.goL mt_200 1 (f2 := (62, [.ref 210, .int (10 : Int32), .int (Int32.ofNat j)], [rv (R 221 (Int32.toNatClampNeg (10 : Int32)))], (238, R, fiI I 232 j (-1), L))) (b := true) rfl rfl ?_
    rw [show (Int32.toNatClampNeg (10 : Int32)) = 10 from by decide, h1]
    refine Rc.goL mt_200 2 (f2 := (65, [.ref 210, .int (10 : Int32), .int (Int32.ofNat j)], [], (238, R, upI (fiI I 232 j (-1)) 232 (Int32.toNatClampNeg (Int32.ofNat j)) (-1), L))) (b := (ib 520 (Int32.ofNat j) && true)) rfl (and_i (i_ib (by omega) (by decide)) rfl) ?_
    rw [i_clamp (by omega), fiI_s]
    refine Rc.goL mt_200 1 (f2 := (49, [.ref 210, .int (10 : Int32), .int ((Int32.ofNat j) + 1)], [], (238, R, fiI I 232 (j + 1) (-1), L))) (b := true) rfl rfl ?_
    rw [i_succ]
    exact ih (j + 1) (by omega)
theorem lw_200_49_10 {d : Nat} {R : MR} {I : MI} {L : ML} {res : Option Value × GM} (h0 : R 210 3 = some 221) (h1 : R 221 10 = some 232) (hk : Rc d 200 (71, [.ref 210, .int (10 : Int32), .int (520 : Int32)], [], (238, R, fiI I 232 520 (-1), L)) res) : Rc d 200 (49, [.ref 210, .int (10 : Int32), .int (0 : Int32)], [], (238, R, I, L)) res := by
  have h := lw_200_49_10_l (d := d) (R := R) (I := I) (L := L) (res := res) h0 h1 hk 520 0 (by omega)
  rwa [fiI_0] at h
set_option maxRecDepth 20000 in
theorem lw_200_49_11_l {d : Nat} {R : MR} {I : MI} {L : ML} {res : Option Value × GM} (h0 : R 210 3 = some 221) (h1 : R 221 11 = some 233) (hk : Rc d 200 (71, [.ref 210, .int (11 : Int32), .int (520 : Int32)], [], (238, R, fiI I 233 520 (-1), L)) res) : ∀ (k j : Nat), j + k = 520 → Rc d 200 (49, [.ref 210, .int (11 : Int32), .int (Int32.ofNat j)], [], (238, R, fiI I 233 j (-1), L)) res := by
  intro k
  induction k with
  | zero =>
    intro j hj
    have hj : j = 520 := by omega
    subst hj
    refine Rc.goL mt_200 2 (f2 := (71, [.ref 210, .int (11 : Int32), .int (520 : Int32)], [], (238, R, fiI I 233 520 (-1), L))) (b := true) rfl rfl ?_
    exact hk
  | succ k ih =>
    intro j hj
    refine Rc.goL mt_200 2 (f2 := (if Int32.ofNat j < (520 : Int32) then 56 else 71, [.ref 210, .int (11 : Int32), .int (Int32.ofNat j)], [], (238, R, fiI I 233 j (-1), L))) (b := true) rfl rfl ?_
    rw [if_pos (i_lt (by rw [show Int32.toInt (520 : Int32) = 520 from by decide]; omega))]
    refine Rc.goL mt_200 1 (f2 := (60, [.ref 210, .int (11 : Int32), .int (Int32.ofNat j)], [rv (R 210 3)], (238, R, fiI I 233 j (-1), L))) (b := true) rfl rfl ?_
    rw [h0]
    refine Rc.goL mt_200 1 (f2 := (62, [.ref 210, .int (11 : Int32), .int (Int32.ofNat j)], [rv (R 221 (Int32.toNatClampNeg (11 : Int32)))], (238, R, fiI I 233 j (-1), L))) (b := true) rfl rfl ?_
    rw [show (Int32.toNatClampNeg (11 : Int32)) = 11 from by decide, h1]
    refine Rc.goL mt_200 2 (f2 := (65, [.ref 210, .int (11 : Int32), .int (Int32.ofNat j)], [], (238, R, upI (fiI I 233 j (-1)) 233 (Int32.toNatClampNeg (Int32.ofNat j)) (-1), L))) (b := (ib 520 (Int32.ofNat j) && true)) rfl (and_i (i_ib (by omega) (by decide)) rfl) ?_
    rw [i_clamp (by omega), fiI_s]
    refine Rc.goL mt_200 1 (f2 := (49, [.ref 210, .int (11 : Int32), .int ((Int32.ofNat j) + 1)], [], (238, R, fiI I 233 (j + 1) (-1), L))) (b := true) rfl rfl ?_
    rw [i_succ]
    exact ih (j + 1) (by omega)
theorem lw_200_49_11 {d : Nat} {R : MR} {I : MI} {L : ML} {res : Option Value × GM} (h0 : R 210 3 = some 221) (h1 : R 221 11 = some 233) (hk : Rc d 200 (71, [.ref 210, .int (11 : Int32), .int (520 : Int32)], [], (238, R, fiI I 233 520 (-1), L)) res) : Rc d 200 (49, [.ref 210, .int (11 : Int32), .int (0 : Int32)], [], (238, R, I, L)) res := by
  have h := lw_200_49_11_l (d := d) (R := R) (I := I) (L := L) (res := res) h0 h1 hk 520 0 (by omega)
  rwa [fiI_0] at h
set_option maxRecDepth 20000 in
theorem lw_200_49_12_l {d : Nat} {R : MR} {I : MI} {L : ML} {res : Option Value × GM} (h0 : R 210 3 = some 221) (h1 : R 221 12 = some 234) (hk : Rc d 200 (71, [.ref 210, .int (12 : Int32), .int (520 : Int32)], [], (238, R, fiI I 234 520 (-1), L)) res) : ∀ (k j : Nat), j + k = 520 → Rc d 200 (49, [.ref 210, .int (12 : Int32), .int (Int32.ofNat j)], [], (238, R, fiI I 234 j (-1), L)) res := by
  intro k
  induction k with
  | zero =>
    intro j hj
    have hj : j = 520 := by omega
    subst hj
    refine Rc.goL mt_200 2 (f2 := (71, [.ref 210, .int (12 : Int32), .int (520 : Int32)], [], (238, R, fiI I 234 520 (-1), L))) (b := true) rfl rfl ?_
    exact hk
  | succ k ih =>
    intro j hj
    refine Rc.goL mt_200 2 (f2 := (if Int32.ofNat j < (520 : Int32) then 56 else 71, [.ref 210, .int (12 : Int32), .int (Int32.ofNat j)], [], (238, R, fiI I 234 j (-1), L))) (b := true) rfl rfl ?_
    rw [if_pos (i_lt (by rw [show Int32.toInt (520 : Int32) = 520 from by decide]; omega))]
    refine Rc.goL mt_200 1 (f2 := (60, [.ref 210, .int (12 : Int32), .int (Int32.ofNat j)], [rv (R 210 3)], (238, R, fiI I 234 j (-1), L))) (b := true) rfl rfl ?_
    rw [h0]
    refine Rc.goL mt_200 1 (f2 := (62, [.ref 210, .int (12 : Int32), .int (Int32.ofNat j)], [rv (R 221 (Int32.toNatClampNeg (12 : Int32)))], (238, R, fiI I 234 j (-1), L))) (b := true) rfl rfl ?_
    rw [show (Int32.toNatClampNeg (12 : Int32)) = 12 from by decide, h1]
    refine Rc.goL mt_200 2 (f2 := (65, [.ref 210, .int (12 : Int32), .int (Int32.ofNat j)], [], (238, R, upI (fiI I 234 j (-1)) 234 (Int32.toNatClampNeg (Int32.ofNat j)) (-1), L))) (b := (ib 520 (Int32.ofNat j) && true)) rfl (and_i (i_ib (by omega) (by decide)) rfl) ?_
    rw [i_clamp (by omega), fiI_s]
    refine Rc.goL mt_200 1 (f2 := (49, [.ref 210, .int (12 : Int32), .int ((Int32.ofNat j) + 1)], [], (238, R, fiI I 234 (j + 1) (-1), L))) (b := true) rfl rfl ?_
    rw [i_succ]
    exact ih (j + 1) (by omega)
theorem lw_200_49_12 {d : Nat} {R : MR} {I : MI} {L : ML} {res : Option Value × GM} (h0 : R 210 3 = some 221) (h1 : R 221 12 = some 234) (hk : Rc d 200 (71, [.ref 210, .int (12 : Int32), .int (520 : Int32)], [], (238, R, fiI I 234 520 (-1), L)) res) : Rc d 200 (49, [.ref 210, .int (12 : Int32), .int (0 : Int32)], [], (238, R, I, L)) res := by
  have h := lw_200_49_12_l (d := d) (R := R) (I := I) (L := L) (res := res) h0 h1 hk 520 0 (by omega)
  rwa [fiI_0] at h
set_option maxRecDepth 20000 in
theorem lw_200_49_13_l {d : Nat} {R : MR} {I : MI} {L : ML} {res : Option Value × GM} (h0 : R 210 3 = some 221) (h1 : R 221 13 = some 235) (hk : Rc d 200 (71, [.ref 210, .int (13 : Int32), .int (520 : Int32)], [], (238, R, fiI I 235 520 (-1), L)) res) : ∀ (k j : Nat), j + k = 520 → Rc d 200 (49, [.ref 210, .int (13 : Int32), .int (Int32.ofNat j)], [], (238, R, fiI I 235 j (-1), L)) res := by
  intro k
  induction k with
  | zero =>
    intro j hj
    have hj : j = 520 := by omega
    subst hj
    refine Rc.goL mt_200 2 (f2 := (71, [.ref 210, .int (13 : Int32), .int (520 : Int32)], [], (238, R, fiI I 235 520 (-1), L))) (b := true) rfl rfl ?_
    exact hk
  | succ k ih =>
    intro j hj
    refine Rc.goL mt_200 2 (f2 := (if Int32.ofNat j < (520 : Int32) then 56 else 71, [.ref 210, .int (13 : Int32), .int (Int32.ofNat j)], [], (238, R, fiI I 235 j (-1), L))) (b := true) rfl rfl ?_
    rw [if_pos (i_lt (by rw [show Int32.toInt (520 : Int32) = 520 from by decide]; omega))]
    refine Rc.goL mt_200 1 (f2 := (60, [.ref 210, .int (13 : Int32), .int (Int32.ofNat j)], [rv (R 210 3)], (238, R, fiI I 235 j (-1), L))) (b := true) rfl rfl ?_
    rw [h0]
    refine Rc.goL mt_200 1 (f2 := (62, [.ref 210, .int (13 : Int32), .int (Int32.ofNat j)], [rv (R 221 (Int32.toNatClampNeg (13 : Int32)))], (238, R, fiI I 235 j (-1), L))) (b := true) rfl rfl ?_
    rw [show (Int32.toNatClampNeg (13 : Int32)) = 13 from by decide, h1]
    refine Rc.goL mt_200 2 (f2 := (65, [.ref 210, .int (13 : Int32), .int (Int32.ofNat j)], [], (238, R, upI (fiI I 235 j (-1)) 235 (Int32.toNatClampNeg (Int32.ofNat j)) (-1), L))) (b := (ib 520 (Int32.ofNat j) && true)) rfl (and_i (i_ib (by omega) (by decide)) rfl) ?_
    rw [i_clamp (by omega), fiI_s]
    refine Rc.goL mt_200 1 (f2 := (49, [.ref 210, .int (13 : Int32), .int ((Int32.ofNat j) + 1)], [], (238, R, fiI I 235 (j + 1) (-1), L))) (b := true) rfl rfl ?_
    rw [i_succ]
    exact ih (j + 1) (by omega)
theorem lw_200_49_13 {d : Nat} {R : MR} {I : MI} {L : ML} {res : Option Value × GM} (h0 : R 210 3 = some 221) (h1 : R 221 13 = some 235) (hk : Rc d 200 (71, [.ref 210, .int (13 : Int32), .int (520 : Int32)], [], (238, R, fiI I 235 520 (-1), L)) res) : Rc d 200 (49, [.ref 210, .int (13 : Int32), .int (0 : Int32)], [], (238, R, I, L)) res := by
  have h := lw_200_49_13_l (d := d) (R := R) (I := I) (L := L) (res := res) h0 h1 hk 520 0 (by omega)
  rwa [fiI_0] at h
set_option maxRecDepth 20000 in
theorem lw_200_49_14_l {d : Nat} {R : MR} {I : MI} {L : ML} {res : Option Value × GM} (h0 : R 210 3 = some 221) (h1 : R 221 14 = some 236) (hk : Rc d 200 (71, [.ref 210, .int (14 : Int32), .int (520 : Int32)], [], (238, R, fiI I 236 520 (-1), L)) res) : ∀ (k j : Nat), j + k = 520 → Rc d 200 (49, [.ref 210, .int (14 : Int32), .int (Int32.ofNat j)], [], (238, R, fiI I 236 j (-1), L)) res := by
  intro k
  induction k with
  | zero =>
    intro j hj
    have hj : j = 520 := by omega
    subst hj
    refine Rc.goL mt_200 2 (f2 := (71, [.ref 210, .int (14 : Int32), .int (520 : Int32)], [], (238, R, fiI I 236 520 (-1), L))) (b := true) rfl rfl ?_
    exact hk
  | succ k ih =>
    intro j hj
    refine Rc.goL mt_200 2 (f2 := (if Int32.ofNat j < (520 : Int32) then 56 else 71, [.ref 210, .int (14 : Int32), .int (Int32.ofNat j)], [], (238, R, fiI I 236 j (-1), L))) (b := true) rfl rfl ?_
    rw [if_pos (i_lt (by rw [show Int32.toInt (520 : Int32) = 520 from by decide]; omega))]
    refine Rc.goL mt_200 1 (f2 := (60, [.ref 210, .int (14 : Int32), .int (Int32.ofNat j)], [rv (R 210 3)], (238, R, fiI I 236 j (-1), L))) (b := true) rfl rfl ?_
    rw [h0]
    refine Rc.goL mt_200 1 (f2 := (62, [.ref 210, .int (14 : Int32), .int (Int32.ofNat j)], [rv (R 221 (Int32.toNatClampNeg (14 : Int32)))], (238, R, fiI I 236 j (-1), L))) (b := true) rfl rfl ?_
    rw [show (Int32.toNatClampNeg (14 : Int32)) = 14 from by decide, h1]
    refine Rc.goL mt_200 2 (f2 := (65, [.ref 210, .int (14 : Int32), .int (Int32.ofNat j)], [], (238, R, upI (fiI I 236 j (-1)) 236 (Int32.toNatClampNeg (Int32.ofNat j)) (-1), L))) (b := (ib 520 (Int32.ofNat j) && true)) rfl (and_i (i_ib (by omega) (by decide)) rfl) ?_
    rw [i_clamp (by omega), fiI_s]
    refine Rc.goL mt_200 1 (f2 := (49, [.ref 210, .int (14 : Int32), .int ((Int32.ofNat j) + 1)], [], (238, R, fiI I 236 (j + 1) (-1), L))) (b := true) rfl rfl ?_
    rw [i_succ]
    exact ih (j + 1) (by omega)
theorem lw_200_49_14 {d : Nat} {R : MR} {I : MI} {L : ML} {res : Option Value × GM} (h0 : R 210 3 = some 221) (h1 : R 221 14 = some 236) (hk : Rc d 200 (71, [.ref 210, .int (14 : Int32), .int (520 : Int32)], [], (238, R, fiI I 236 520 (-1), L)) res) : Rc d 200 (49, [.ref 210, .int (14 : Int32), .int (0 : Int32)], [], (238, R, I, L)) res := by
  have h := lw_200_49_14_l (d := d) (R := R) (I := I) (L := L) (res := res) h0 h1 hk 520 0 (by omega)
  rwa [fiI_0] at h
set_option maxRecDepth 20000 in
theorem lw_200_49_15_l {d : Nat} {R : MR} {I : MI} {L : ML} {res : Option Value × GM} (h0 : R 210 3 = some 221) (h1 : R 221 15 = some 237) (hk : Rc d 200 (71, [.ref 210, .int (15 : Int32), .int (520 : Int32)], [], (238, R, fiI I 237 520 (-1), L)) res) : ∀ (k j : Nat), j + k = 520 → Rc d 200 (49, [.ref 210, .int (15 : Int32), .int (Int32.ofNat j)], [], (238, R, fiI I 237 j (-1), L)) res := by
  intro k
  induction k with
  | zero =>
    intro j hj
    have hj : j = 520 := by omega
    subst hj
    refine Rc.goL mt_200 2 (f2 := (71, [.ref 210, .int (15 : Int32), .int (520 : Int32)], [], (238, R, fiI I 237 520 (-1), L))) (b := true) rfl rfl ?_
    exact hk
  | succ k ih =>
    intro j hj
    refine Rc.goL mt_200 2 (f2 := (if Int32.ofNat j < (520 : Int32) then 56 else 71, [.ref 210, .int (15 : Int32), .int (Int32.ofNat j)], [], (238, R, fiI I 237 j (-1), L))) (b := true) rfl rfl ?_
    rw [if_pos (i_lt (by rw [show Int32.toInt (520 : Int32) = 520 from by decide]; omega))]
    refine Rc.goL mt_200 1 (f2 := (60, [.ref 210, .int (15 : Int32), .int (Int32.ofNat j)], [rv (R 210 3)], (238, R, fiI I 237 j (-1), L))) (b := true) rfl rfl ?_
    rw [h0]
    refine Rc.goL mt_200 1 (f2 := (62, [.ref 210, .int (15 : Int32), .int (Int32.ofNat j)], [rv (R 221 (Int32.toNatClampNeg (15 : Int32)))], (238, R, fiI I 237 j (-1), L))) (b := true) rfl rfl ?_
    rw [show (Int32.toNatClampNeg (15 : Int32)) = 15 from by decide, h1]
    refine Rc.goL mt_200 2 (f2 := (65, [.ref 210, .int (15 : Int32), .int (Int32.ofNat j)], [], (238, R, upI (fiI I 237 j (-1)) 237 (Int32.toNatClampNeg (Int32.ofNat j)) (-1), L))) (b := (ib 520 (Int32.ofNat j) && true)) rfl (and_i (i_ib (by omega) (by decide)) rfl) ?_
    rw [i_clamp (by omega), fiI_s]
    refine Rc.goL mt_200 1 (f2 := (49, [.ref 210, .int (15 : Int32), .int ((Int32.ofNat j) + 1)], [], (238, R, fiI I 237 (j + 1) (-1), L))) (b := true) rfl rfl ?_
    rw [i_succ]
    exact ih (j + 1) (by omega)
theorem lw_200_49_15 {d : Nat} {R : MR} {I : MI} {L : ML} {res : Option Value × GM} (h0 : R 210 3 = some 221) (h1 : R 221 15 = some 237) (hk : Rc d 200 (71, [.ref 210, .int (15 : Int32), .int (520 : Int32)], [], (238, R, fiI I 237 520 (-1), L)) res) : Rc d 200 (49, [.ref 210, .int (15 : Int32), .int (0 : Int32)], [], (238, R, I, L)) res := by
  have h := lw_200_49_15_l (d := d) (R := R) (I := I) (L := L) (res := res) h0 h1 hk 520 0 (by omega)
  rwa [fiI_0] at h
def rn_200 (R : MR) : MR := (upR (mnR (upR (upR (mnR R 211 8) 210 1 (some 211)) 210 2 (some 220)) 221 16) 210 3 (some 221))
def in_200 (I : MI) : MI := (fiI (fiI (fiI (fiI (fiI (fiI (fiI (fiI (fiI (fiI (fiI (fiI (fiI (fiI (fiI (fiI I 222 520 (-1)) 223 520 (-1)) 224 520 (-1)) 225 520 (-1)) 226 520 (-1)) 227 520 (-1)) 228 520 (-1)) 229 520 (-1)) 230 520 (-1)) 231 520 (-1)) 232 520 (-1)) 233 520 (-1)) 234 520 (-1)) 235 520 (-1)) 236 520 (-1)) 237 520 (-1))
theorem cf_200 {R : MR} {I : MI} {L : ML} (hF : FM 211 R I L) : FM 238 (rn_200 R) (in_200 I) L := by
  have hF := (hF.mkm 8 (m := 220) rfl (by decide)).2
  have hF := hF.uR (c := 210) (i := 1) (v := some 211) (by decide)
  have hF := (hF.mk1 (m := 221) rfl (by decide)).2
  have hF := hF.uR (c := 210) (i := 2) (v := some 220) (by decide)
  have hF := (hF.mkm 16 (m := 238) rfl (by decide)).2
  have hF := hF.uR (c := 210) (i := 3) (v := some 221) (by decide)
  have hF := hF.fi (c := 222) (N := 520) (v := -1) (by decide)
  have hF := hF.fi (c := 223) (N := 520) (v := -1) (by decide)
  have hF := hF.fi (c := 224) (N := 520) (v := -1) (by decide)
  have hF := hF.fi (c := 225) (N := 520) (v := -1) (by decide)
  have hF := hF.fi (c := 226) (N := 520) (v := -1) (by decide)
  have hF := hF.fi (c := 227) (N := 520) (v := -1) (by decide)
  have hF := hF.fi (c := 228) (N := 520) (v := -1) (by decide)
  have hF := hF.fi (c := 229) (N := 520) (v := -1) (by decide)
  have hF := hF.fi (c := 230) (N := 520) (v := -1) (by decide)
  have hF := hF.fi (c := 231) (N := 520) (v := -1) (by decide)
  have hF := hF.fi (c := 232) (N := 520) (v := -1) (by decide)
  have hF := hF.fi (c := 233) (N := 520) (v := -1) (by decide)
  have hF := hF.fi (c := 234) (N := 520) (v := -1) (by decide)
  have hF := hF.fi (c := 235) (N := 520) (v := -1) (by decide)
  have hF := hF.fi (c := 236) (N := 520) (v := -1) (by decide)
  have hF := hF.fi (c := 237) (N := 520) (v := -1) (by decide)
  exact hF
set_option maxRecDepth 20000 in
theorem cn_200 {d : Nat} (hd : 1 ≤ d) {R : MR} {I : MI} {L : ML} (hF : FM 211 R I L) : Ex d 200 [.ref 210] (211, R, I, L) (none, (238, rn_200 R, (in_200 I), L)) := by
  obtain ⟨d, rfl⟩ : ∃ d0, d = d0 + 1 := ⟨d - 1, by omega⟩
  refine Ex.of okm_200 (by omega) (Nat.le_of_ble_eq_true rfl) ?_
  show Rc (d + 1) 200 (0, [.ref 210, UU, UU], [], (211, R, I, L)) _
  refine Rc.goL mt_200 4 (f2 := (10, [.ref 210, UU, UU], [.int (300 : Int32), .int (8 : Int32), .ref 210], (211, R, I, L))) (b := true) rfl rfl ?_
  refine Rc.goL mt_200 0 (f2 := (14, [.ref 210, UU, UU], [.ref 211, .ref 210], nwm 8 (211, R, I, L))) (b := ((Nat.beq (15 : Nat) 15 && Nat.beq (K0 211) 26 && decide (¬ (8 : Int32) < 0) && decide (¬ (300 : Int32) < 0) && Nat.beq (Int32.toNatClampNeg (8 : Int32)) (Z0 211) && (List.range (Z0 211)).all (fun j => Nat.beq (K0 (211 + 1 + j)) 20 && Nat.beq (Z0 (211 + 1 + j)) (Int32.toNatClampNeg (300 : Int32)))) && true)) rfl (by decide +kernel) ?_
  rw [(hF.mkm 8 (m := 220) rfl (by decide)).1]
  have hF := (hF.mkm 8 (m := 220) rfl (by decide)).2
  refine Rc.goL mt_200 0 (f2 := (17, [.ref 210, UU, UU], [], (220, (upR (mnR R 211 8) 210 1 (some 211)), I, L))) (b := true) rfl rfl ?_
  have hF := hF.uR (c := 210) (i := 1) (v := some 211) (by decide)
  refine Rc.goL mt_200 1 (f2 := (21, [.ref 210, UU, UU], [.int (300 : Int32), .ref 210], (220, (upR (mnR R 211 8) 210 1 (some 211)), I, L))) (b := true) rfl rfl ?_
  refine Rc.goL mt_200 0 (f2 := (23, [.ref 210, UU, UU], [.ref 220, .ref 210], nw (220, (upR (mnR R 211 8) 210 1 (some 211)), I, L))) (b := ((Nat.beq (K0 220) (kAT .int) && decide (¬ (300 : Int32) < 0) && Nat.beq (Int32.toNatClampNeg (300 : Int32)) (Z0 220)) && true)) rfl (by decide +kernel) ?_
  rw [(hF.mk1 (m := 221) rfl (by decide)).1]
  have hF := (hF.mk1 (m := 221) rfl (by decide)).2
  refine Rc.goL mt_200 0 (f2 := (26, [.ref 210, UU, UU], [], (221, (upR (upR (mnR R 211 8) 210 1 (some 211)) 210 2 (some 220)), I, L))) (b := true) rfl rfl ?_
  have hF := hF.uR (c := 210) (i := 2) (v := some 220) (by decide)
  refine Rc.goL mt_200 2 (f2 := (32, [.ref 210, UU, UU], [.int (520 : Int32), .int (16 : Int32), .ref 210], (221, (upR (upR (mnR R 211 8) 210 1 (some 211)) 210 2 (some 220)), I, L))) (b := true) rfl rfl ?_
  refine Rc.goL mt_200 0 (f2 := (36, [.ref 210, UU, UU], [.ref 221, .ref 210], nwm 16 (221, (upR (upR (mnR R 211 8) 210 1 (some 211)) 210 2 (some 220)), I, L))) (b := ((Nat.beq (15 : Nat) 15 && Nat.beq (K0 221) 26 && decide (¬ (16 : Int32) < 0) && decide (¬ (520 : Int32) < 0) && Nat.beq (Int32.toNatClampNeg (16 : Int32)) (Z0 221) && (List.range (Z0 221)).all (fun j => Nat.beq (K0 (221 + 1 + j)) 20 && Nat.beq (Z0 (221 + 1 + j)) (Int32.toNatClampNeg (520 : Int32)))) && true)) rfl (by decide +kernel) ?_
  rw [(hF.mkm 16 (m := 238) rfl (by decide)).1]
  have hF := (hF.mkm 16 (m := 238) rfl (by decide)).2
  refine Rc.goL mt_200 0 (f2 := (39, [.ref 210, UU, UU], [], (238, (upR (mnR (upR (upR (mnR R 211 8) 210 1 (some 211)) 210 2 (some 220)) 221 16) 210 3 (some 221)), I, L))) (b := true) rfl rfl ?_
  have hF := hF.uR (c := 210) (i := 3) (v := some 221) (by decide)
  refine Rc.goL mt_200 4 (f2 := ((if (0 : Int32) < (16 : Int32) then 47 else 77), [.ref 210, .int (0 : Int32), UU], [], (238, (upR (mnR (upR (upR (mnR R 211 8) 210 1 (some 211)) 210 2 (some 220)) 221 16) 210 3 (some 221)), I, L))) (b := true) rfl rfl ?_
  rw [if_pos (by decide)]
  refine Rc.goL mt_200 1 (f2 := (49, [.ref 210, .int (0 : Int32), .int (0 : Int32)], [], (238, (upR (mnR (upR (upR (mnR R 211 8) 210 1 (some 211)) 210 2 (some 220)) 221 16) 210 3 (some 221)), I, L))) (b := true) rfl rfl ?_
  refine lw_200_49_0 (by rfl) (by rfl) ?_
  have hF := hF.fi (c := 222) (N := 520) (v := -1) (by decide)
  refine Rc.goL mt_200 0 (f2 := (74, [.ref 210, .int ((0 : Int32) + 1), .int (520 : Int32)], [], (238, (upR (mnR (upR (upR (mnR R 211 8) 210 1 (some 211)) 210 2 (some 220)) 221 16) 210 3 (some 221)), (fiI I 222 520 (-1)), L))) (b := true) rfl rfl ?_
  rw [show (0 : Int32) + 1 = 1 from by decide]
  refine Rc.goL mt_200 0 (f2 := (41, [.ref 210, .int (1 : Int32), .int (520 : Int32)], [], (238, (upR (mnR (upR (upR (mnR R 211 8) 210 1 (some 211)) 210 2 (some 220)) 221 16) 210 3 (some 221)), (fiI I 222 520 (-1)), L))) (b := true) rfl rfl ?_
  refine Rc.goL mt_200 2 (f2 := ((if (1 : Int32) < (16 : Int32) then 47 else 77), [.ref 210, .int (1 : Int32), .int (520 : Int32)], [], (238, (upR (mnR (upR (upR (mnR R 211 8) 210 1 (some 211)) 210 2 (some 220)) 221 16) 210 3 (some 221)), (fiI I 222 520 (-1)), L))) (b := true) rfl rfl ?_
  rw [if_pos (by decide)]
  refine Rc.goL mt_200 1 (f2 := (49, [.ref 210, .int (1 : Int32), .int (0 : Int32)], [], (238, (upR (mnR (upR (upR (mnR R 211 8) 210 1 (some 211)) 210 2 (some 220)) 221 16) 210 3 (some 221)), (fiI I 222 520 (-1)), L))) (b := true) rfl rfl ?_
  refine lw_200_49_1 (by rfl) (by rfl) ?_
  have hF := hF.fi (c := 223) (N := 520) (v := -1) (by decide)
  refine Rc.goL mt_200 0 (f2 := (74, [.ref 210, .int ((1 : Int32) + 1), .int (520 : Int32)], [], (238, (upR (mnR (upR (upR (mnR R 211 8) 210 1 (some 211)) 210 2 (some 220)) 221 16) 210 3 (some 221)), (fiI (fiI I 222 520 (-1)) 223 520 (-1)), L))) (b := true) rfl rfl ?_
  rw [show (1 : Int32) + 1 = 2 from by decide]
  refine Rc.goL mt_200 0 (f2 := (41, [.ref 210, .int (2 : Int32), .int (520 : Int32)], [], (238, (upR (mnR (upR (upR (mnR R 211 8) 210 1 (some 211)) 210 2 (some 220)) 221 16) 210 3 (some 221)), (fiI (fiI I 222 520 (-1)) 223 520 (-1)), L))) (b := true) rfl rfl ?_
  refine Rc.goL mt_200 2 (f2 := ((if (2 : Int32) < (16 : Int32) then 47 else 77), [.ref 210, .int (2 : Int32), .int (520 : Int32)], [], (238, (upR (mnR (upR (upR (mnR R 211 8) 210 1 (some 211)) 210 2 (some 220)) 221 16) 210 3 (some 221)), (fiI (fiI I 222 520 (-1)) 223 520 (-1)), L))) (b := true) rfl rfl ?_
  rw [if_pos (by decide)]
  refine Rc.goL mt_200 1 (f2 := (49, [.ref 210, .int (2 : Int32), .int (0 : Int32)], [], (238, (upR (mnR (upR (upR (mnR R 211 8) 210 1 (some 211)) 210 2 (some 220)) 221 16) 210 3 (some 221)), (fiI (fiI I 222 520 (-1)) 223 520 (-1)), L))) (b := true) rfl rfl ?_
  refine lw_200_49_2 (by rfl) (by rfl) ?_
  have hF := hF.fi (c := 224) (N := 520) (v := -1) (by decide)
  refine Rc.goL mt_200 0 (f2 := (74, [.ref 210, .int ((2 : Int32) + 1), .int (520 : Int32)], [], (238, (upR (mnR (upR (upR (mnR R 211 8) 210 1 (some 211)) 210 2 (some 220)) 221 16) 210 3 (some 221)), (fiI (fiI (fiI I 222 520 (-1)) 223 520 (-1)) 224 520 (-1)), L))) (b := true) rfl rfl ?_
  rw [show (2 : Int32) + 1 = 3 from by decide]
  refine Rc.goL mt_200 0 (f2 := (41, [.ref 210, .int (3 : Int32), .int (520 : Int32)], [], (238, (upR (mnR (upR (upR (mnR R 211 8) 210 1 (some 211)) 210 2 (some 220)) 221 16) 210 3 (some 221)), (fiI (fiI (fiI I 222 520 (-1)) 223 520 (-1)) 224 520 (-1)), L))) (b := true) rfl rfl ?_
  refine Rc.goL mt_200 2 (f2 := ((if (3 : Int32) < (16 : Int32) then 47 else 77), [.ref 210, .int (3 : Int32), .int (520 : Int32)], [], (238, (upR (mnR (upR (upR (mnR R 211 8) 210 1 (some 211)) 210 2 (some 220)) 221 16) 210 3 (some 221)), (fiI (fiI (fiI I 222 520 (-1)) 223 520 (-1)) 224 520 (-1)), L))) (b := true) rfl rfl ?_
  rw [if_pos (by decide)]
  refine Rc.goL mt_200 1 (f2 := (49, [.ref 210, .int (3 : Int32), .int (0 : Int32)], [], (238, (upR (mnR (upR (upR (mnR R 211 8) 210 1 (some 211)) 210 2 (some 220)) 221 16) 210 3 (some 221)), (fiI (fiI (fiI I 222 520 (-1)) 223 520 (-1)) 224 520 (-1)), L))) (b := true) rfl rfl ?_
  refine lw_200_49_3 (by rfl) (by rfl) ?_
  have hF := hF.fi (c := 225) (N := 520) (v := -1) (by decide)
  refine Rc.goL mt_200 0 (f2 := (74, [.ref 210, .int ((3 : Int32) + 1), .int (520 : Int32)], [], (238, (upR (mnR (upR (upR (mnR R 211 8) 210 1 (some 211)) 210 2 (some 220)) 221 16) 210 3 (some 221)), (fiI (fiI (fiI (fiI I 222 520 (-1)) 223 520 (-1)) 224 520 (-1)) 225 520 (-1)), L))) (b := true) rfl rfl ?_
  rw [show (3 : Int32) + 1 = 4 from by decide]
  refine Rc.goL mt_200 0 (f2 := (41, [.ref 210, .int (4 : Int32), .int (520 : Int32)], [], (238, (upR (mnR (upR (upR (mnR R 211 8) 210 1 (some 211)) 210 2 (some 220)) 221 16) 210 3 (some 221)), (fiI (fiI (fiI (fiI I 222 520 (-1)) 223 520 (-1)) 224 520 (-1)) 225 520 (-1)), L))) (b := true) rfl rfl ?_
  refine Rc.goL mt_200 2 (f2 := ((if (4 : Int32) < (16 : Int32) then 47 else 77), [.ref 210, .int (4 : Int32), .int (520 : Int32)], [], (238, (upR (mnR (upR (upR (mnR R 211 8) 210 1 (some 211)) 210 2 (some 220)) 221 16) 210 3 (some 221)), (fiI (fiI (fiI (fiI I 222 520 (-1)) 223 520 (-1)) 224 520 (-1)) 225 520 (-1)), L))) (b := true) rfl rfl ?_
  rw [if_pos (by decide)]
  refine Rc.goL mt_200 1 (f2 := (49, [.ref 210, .int (4 : Int32), .int (0 : Int32)], [], (238, (upR (mnR (upR (upR (mnR R 211 8) 210 1 (some 211)) 210 2 (some 220)) 221 16) 210 3 (some 221)), (fiI (fiI (fiI (fiI I 222 520 (-1)) 223 520 (-1)) 224 520 (-1)) 225 520 (-1)), L))) (b := true) rfl rfl ?_
  refine lw_200_49_4 (by rfl) (by rfl) ?_
  have hF := hF.fi (c := 226) (N := 520) (v := -1) (by decide)
  refine Rc.goL mt_200 0 (f2 := (74, [.ref 210, .int ((4 : Int32) + 1), .int (520 : Int32)], [], (238, (upR (mnR (upR (upR (mnR R 211 8) 210 1 (some 211)) 210 2 (some 220)) 221 16) 210 3 (some 221)), (fiI (fiI (fiI (fiI (fiI I 222 520 (-1)) 223 520 (-1)) 224 520 (-1)) 225 520 (-1)) 226 520 (-1)), L))) (b := true) rfl rfl ?_
  rw [show (4 : Int32) + 1 = 5 from by decide]
  refine Rc.goL mt_200 0 (f2 := (41, [.ref 210, .int (5 : Int32), .int (520 : Int32)], [], (238, (upR (mnR (upR (upR (mnR R 211 8) 210 1 (some 211)) 210 2 (some 220)) 221 16) 210 3 (some 221)), (fiI (fiI (fiI (fiI (fiI I 222 520 (-1)) 223 520 (-1)) 224 520 (-1)) 225 520 (-1)) 226 520 (-1)), L))) (b := true) rfl rfl ?_
  refine Rc.goL mt_200 2 (f2 := ((if (5 : Int32) < (16 : Int32) then 47 else 77), [.ref 210, .int (5 : Int32), .int (520 : Int32)], [], (238, (upR (mnR (upR (upR (mnR R 211 8) 210 1 (some 211)) 210 2 (some 220)) 221 16) 210 3 (some 221)), (fiI (fiI (fiI (fiI (fiI I 222 520 (-1)) 223 520 (-1)) 224 520 (-1)) 225 520 (-1)) 226 520 (-1)), L))) (b := true) rfl rfl ?_
  rw [if_pos (by decide)]
  refine Rc.goL mt_200 1 (f2 := (49, [.ref 210, .int (5 : Int32), .int (0 : Int32)], [], (238, (upR (mnR (upR (upR (mnR R 211 8) 210 1 (some 211)) 210 2 (some 220)) 221 16) 210 3 (some 221)), (fiI (fiI (fiI (fiI (fiI I 222 520 (-1)) 223 520 (-1)) 224 520 (-1)) 225 520 (-1)) 226 520 (-1)), L))) (b := true) rfl rfl ?_
  refine lw_200_49_5 (by rfl) (by rfl) ?_
  have hF := hF.fi (c := 227) (N := 520) (v := -1) (by decide)
  refine Rc.goL mt_200 0 (f2 := (74, [.ref 210, .int ((5 : Int32) + 1), .int (520 : Int32)], [], (238, (upR (mnR (upR (upR (mnR R 211 8) 210 1 (some 211)) 210 2 (some 220)) 221 16) 210 3 (some 221)), (fiI (fiI (fiI (fiI (fiI (fiI I 222 520 (-1)) 223 520 (-1)) 224 520 (-1)) 225 520 (-1)) 226 520 (-1)) 227 520 (-1)), L))) (b := true) rfl rfl ?_
  rw [show (5 : Int32) + 1 = 6 from by decide]
  refine Rc.goL mt_200 0 (f2 := (41, [.ref 210, .int (6 : Int32), .int (520 : Int32)], [], (238, (upR (mnR (upR (upR (mnR R 211 8) 210 1 (some 211)) 210 2 (some 220)) 221 16) 210 3 (some 221)), (fiI (fiI (fiI (fiI (fiI (fiI I 222 520 (-1)) 223 520 (-1)) 224 520 (-1)) 225 520 (-1)) 226 520 (-1)) 227 520 (-1)), L))) (b := true) rfl rfl ?_
  refine Rc.goL mt_200 2 (f2 := ((if (6 : Int32) < (16 : Int32) then 47 else 77), [.ref 210, .int (6 : Int32), .int (520 : Int32)], [], (238, (upR (mnR (upR (upR (mnR R 211 8) 210 1 (some 211)) 210 2 (some 220)) 221 16) 210 3 (some 221)), (fiI (fiI (fiI (fiI (fiI (fiI I 222 520 (-1)) 223 520 (-1)) 224 520 (-1)) 225 520 (-1)) 226 520 (-1)) 227 520 (-1)), L))) (b := true) rfl rfl ?_
  rw [if_pos (by decide)]
  refine Rc.goL mt_200 1 (f2 := (49, [.ref 210, .int (6 : Int32), .int (0 : Int32)], [], (238, (upR (mnR (upR (upR (mnR R 211 8) 210 1 (some 211)) 210 2 (some 220)) 221 16) 210 3 (some 221)), (fiI (fiI (fiI (fiI (fiI (fiI I 222 520 (-1)) 223 520 (-1)) 224 520 (-1)) 225 520 (-1)) 226 520 (-1)) 227 520 (-1)), L))) (b := true) rfl rfl ?_
  refine lw_200_49_6 (by rfl) (by rfl) ?_
  have hF := hF.fi (c := 228) (N := 520) (v := -1) (by decide)
  refine Rc.goL mt_200 0 (f2 := (74, [.ref 210, .int ((6 : Int32) + 1), .int (520 : Int32)], [], (238, (upR (mnR (upR (upR (mnR R 211 8) 210 1 (some 211)) 210 2 (some 220)) 221 16) 210 3 (some 221)), (fiI (fiI (fiI (fiI (fiI (fiI (fiI I 222 520 (-1)) 223 520 (-1)) 224 520 (-1)) 225 520 (-1)) 226 520 (-1)) 227 520 (-1)) 228 520 (-1)), L))) (b := true) rfl rfl ?_
  rw [show (6 : Int32) + 1 = 7 from by decide]
  refine Rc.goL mt_200 0 (f2 := (41, [.ref 210, .int (7 : Int32), .int (520 : Int32)], [], (238, (upR (mnR (upR (upR (mnR R 211 8) 210 1 (some 211)) 210 2 (some 220)) 221 16) 210 3 (some 221)), (fiI (fiI (fiI (fiI (fiI (fiI (fiI I 222 520 (-1)) 223 520 (-1)) 224 520 (-1)) 225 520 (-1)) 226 520 (-1)) 227 520 (-1)) 228 520 (-1)), L))) (b := true) rfl rfl ?_
  refine Rc.goL mt_200 2 (f2 := ((if (7 : Int32) < (16 : Int32) then 47 else 77), [.ref 210, .int (7 : Int32), .int (520 : Int32)], [], (238, (upR (mnR (upR (upR (mnR R 211 8) 210 1 (some 211)) 210 2 (some 220)) 221 16) 210 3 (some 221)), (fiI (fiI (fiI (fiI (fiI (fiI (fiI I 222 520 (-1)) 223 520 (-1)) 224 520 (-1)) 225 520 (-1)) 226 520 (-1)) 227 520 (-1)) 228 520 (-1)), L))) (b := true) rfl rfl ?_
  rw [if_pos (by decide)]
  refine Rc.goL mt_200 1 (f2 := (49, [.ref 210, .int (7 : Int32), .int (0 : Int32)], [], (238, (upR (mnR (upR (upR (mnR R 211 8) 210 1 (some 211)) 210 2 (some 220)) 221 16) 210 3 (some 221)), (fiI (fiI (fiI (fiI (fiI (fiI (fiI I 222 520 (-1)) 223 520 (-1)) 224 520 (-1)) 225 520 (-1)) 226 520 (-1)) 227 520 (-1)) 228 520 (-1)), L))) (b := true) rfl rfl ?_
  refine lw_200_49_7 (by rfl) (by rfl) ?_
  have hF := hF.fi (c := 229) (N := 520) (v := -1) (by decide)
  refine Rc.goL mt_200 0 (f2 := (74, [.ref 210, .int ((7 : Int32) + 1), .int (520 : Int32)], [], (238, (upR (mnR (upR (upR (mnR R 211 8) 210 1 (some 211)) 210 2 (some 220)) 221 16) 210 3 (some 221)), (fiI (fiI (fiI (fiI (fiI (fiI (fiI (fiI I 222 520 (-1)) 223 520 (-1)) 224 520 (-1)) 225 520 (-1)) 226 520 (-1)) 227 520 (-1)) 228 520 (-1)) 229 520 (-1)), L))) (b := true) rfl rfl ?_
  rw [show (7 : Int32) + 1 = 8 from by decide]
  refine Rc.goL mt_200 0 (f2 := (41, [.ref 210, .int (8 : Int32), .int (520 : Int32)], [], (238, (upR (mnR (upR (upR (mnR R 211 8) 210 1 (some 211)) 210 2 (some 220)) 221 16) 210 3 (some 221)), (fiI (fiI (fiI (fiI (fiI (fiI (fiI (fiI I 222 520 (-1)) 223 520 (-1)) 224 520 (-1)) 225 520 (-1)) 226 520 (-1)) 227 520 (-1)) 228 520 (-1)) 229 520 (-1)), L))) (b := true) rfl rfl ?_
  refine Rc.goL mt_200 2 (f2 := ((if (8 : Int32) < (16 : Int32) then 47 else 77), [.ref 210, .int (8 : Int32), .int (520 : Int32)], [], (238, (upR (mnR (upR (upR (mnR R 211 8) 210 1 (some 211)) 210 2 (some 220)) 221 16) 210 3 (some 221)), (fiI (fiI (fiI (fiI (fiI (fiI (fiI (fiI I 222 520 (-1)) 223 520 (-1)) 224 520 (-1)) 225 520 (-1)) 226 520 (-1)) 227 520 (-1)) 228 520 (-1)) 229 520 (-1)), L))) (b := true) rfl rfl ?_
  rw [if_pos (by decide)]
  refine Rc.goL mt_200 1 (f2 := (49, [.ref 210, .int (8 : Int32), .int (0 : Int32)], [], (238, (upR (mnR (upR (upR (mnR R 211 8) 210 1 (some 211)) 210 2 (some 220)) 221 16) 210 3 (some 221)), (fiI (fiI (fiI (fiI (fiI (fiI (fiI (fiI I 222 520 (-1)) 223 520 (-1)) 224 520 (-1)) 225 520 (-1)) 226 520 (-1)) 227 520 (-1)) 228 520 (-1)) 229 520 (-1)), L))) (b := true) rfl rfl ?_
  refine lw_200_49_8 (by rfl) (by rfl) ?_
  have hF := hF.fi (c := 230) (N := 520) (v := -1) (by decide)
  refine Rc.goL mt_200 0 (f2 := (74, [.ref 210, .int ((8 : Int32) + 1), .int (520 : Int32)], [], (238, (upR (mnR (upR (upR (mnR R 211 8) 210 1 (some 211)) 210 2 (some 220)) 221 16) 210 3 (some 221)), (fiI (fiI (fiI (fiI (fiI (fiI (fiI (fiI (fiI I 222 520 (-1)) 223 520 (-1)) 224 520 (-1)) 225 520 (-1)) 226 520 (-1)) 227 520 (-1)) 228 520 (-1)) 229 520 (-1)) 230 520 (-1)), L))) (b := true) rfl rfl ?_
  rw [show (8 : Int32) + 1 = 9 from by decide]
  refine Rc.goL mt_200 0 (f2 := (41, [.ref 210, .int (9 : Int32), .int (520 : Int32)], [], (238, (upR (mnR (upR (upR (mnR R 211 8) 210 1 (some 211)) 210 2 (some 220)) 221 16) 210 3 (some 221)), (fiI (fiI (fiI (fiI (fiI (fiI (fiI (fiI (fiI I 222 520 (-1)) 223 520 (-1)) 224 520 (-1)) 225 520 (-1)) 226 520 (-1)) 227 520 (-1)) 228 520 (-1)) 229 520 (-1)) 230 520 (-1)), L))) (b := true) rfl rfl ?_
  refine Rc.goL mt_200 2 (f2 := ((if (9 : Int32) < (16 : Int32) then 47 else 77), [.ref 210, .int (9 : Int32), .int (520 : Int32)], [], (238, (upR (mnR (upR (upR (mnR R 211 8) 210 1 (some 211)) 210 2 (some 220)) 221 16) 210 3 (some 221)), (fiI (fiI (fiI (fiI (fiI (fiI (fiI (fiI (fiI I 222 520 (-1)) 223 520 (-1)) 224 520 (-1)) 225 520 (-1)) 226 520 (-1)) 227 520 (-1)) 228 520 (-1)) 229 520 (-1)) 230 520 (-1)), L))) (b := true) rfl rfl ?_
  rw [if_pos (by decide)]
  refine Rc.goL mt_200 1 (f2 := (49, [.ref 210, .int (9 : Int32), .int (0 : Int32)], [], (238, (upR (mnR (upR (upR (mnR R 211 8) 210 1 (some 211)) 210 2 (some 220)) 221 16) 210 3 (some 221)), (fiI (fiI (fiI (fiI (fiI (fiI (fiI (fiI (fiI I 222 520 (-1)) 223 520 (-1)) 224 520 (-1)) 225 520 (-1)) 226 520 (-1)) 227 520 (-1)) 228 520 (-1)) 229 520 (-1)) 230 520 (-1)), L))) (b := true) rfl rfl ?_
  refine lw_200_49_9 (by rfl) (by rfl) ?_
  have hF := hF.fi (c := 231) (N := 520) (v := -1) (by decide)
  refine Rc.goL mt_200 0 (f2 := (74, [.ref 210, .int ((9 : Int32) + 1), .int (520 : Int32)], [], (238, (upR (mnR (upR (upR (mnR R 211 8) 210 1 (some 211)) 210 2 (some 220)) 221 16) 210 3 (some 221)), (fiI (fiI (fiI (fiI (fiI (fiI (fiI (fiI (fiI (fiI I 222 520 (-1)) 223 520 (-1)) 224 520 (-1)) 225 520 (-1)) 226 520 (-1)) 227 520 (-1)) 228 520 (-1)) 229 520 (-1)) 230 520 (-1)) 231 520 (-1)), L))) (b := true) rfl rfl ?_
  rw [show (9 : Int32) + 1 = 10 from by decide]
  refine Rc.goL mt_200 0 (f2 := (41, [.ref 210, .int (10 : Int32), .int (520 : Int32)], [], (238, (upR (mnR (upR (upR (mnR R 211 8) 210 1 (some 211)) 210 2 (some 220)) 221 16) 210 3 (some 221)), (fiI (fiI (fiI (fiI (fiI (fiI (fiI (fiI (fiI (fiI I 222 520 (-1)) 223 520 (-1)) 224 520 (-1)) 225 520 (-1)) 226 520 (-1)) 227 520 (-1)) 228 520 (-1)) 229 520 (-1)) 230 520 (-1)) 231 520 (-1)), L))) (b := true) rfl rfl ?_
  refine Rc.goL mt_200 2 (f2 := ((if (10 : Int32) < (16 : Int32) then 47 else 77), [.ref 210, .int (10 : Int32), .int (520 : Int32)], [], (238, (upR (mnR (upR (upR (mnR R 211 8) 210 1 (some 211)) 210 2 (some 220)) 221 16) 210 3 (some 221)), (fiI (fiI (fiI (fiI (fiI (fiI (fiI (fiI (fiI (fiI I 222 520 (-1)) 223 520 (-1)) 224 520 (-1)) 225 520 (-1)) 226 520 (-1)) 227 520 (-1)) 228 520 (-1)) 229 520 (-1)) 230 520 (-1)) 231 520 (-1)), L))) (b := true) rfl rfl ?_
  rw [if_pos (by decide)]
  refine Rc.goL mt_200 1 (f2 := (49, [.ref 210, .int (10 : Int32), .int (0 : Int32)], [], (238, (upR (mnR (upR (upR (mnR R 211 8) 210 1 (some 211)) 210 2 (some 220)) 221 16) 210 3 (some 221)), (fiI (fiI (fiI (fiI (fiI (fiI (fiI (fiI (fiI (fiI I 222 520 (-1)) 223 520 (-1)) 224 520 (-1)) 225 520 (-1)) 226 520 (-1)) 227 520 (-1)) 228 520 (-1)) 229 520 (-1)) 230 520 (-1)) 231 520 (-1)), L))) (b := true) rfl rfl ?_
  refine lw_200_49_10 (by rfl) (by rfl) ?_
  have hF := hF.fi (c := 232) (N := 520) (v := -1) (by decide)
  refine Rc.goL mt_200 0 (f2 := (74, [.ref 210, .int ((10 : Int32) + 1), .int (520 : Int32)], [], (238, (upR (mnR (upR (upR (mnR R 211 8) 210 1 (some 211)) 210 2 (some 220)) 221 16) 210 3 (some 221)), (fiI (fiI (fiI (fiI (fiI (fiI (fiI (fiI (fiI (fiI (fiI I 222 520 (-1)) 223 520 (-1)) 224 520 (-1)) 225 520 (-1)) 226 520 (-1)) 227 520 (-1)) 228 520 (-1)) 229 520 (-1)) 230 520 (-1)) 231 520 (-1)) 232 520 (-1)), L))) (b := true) rfl rfl ?_
  rw [show (10 : Int32) + 1 = 11 from by decide]
  refine Rc.goL mt_200 0 (f2 := (41, [.ref 210, .int (11 : Int32), .int (520 : Int32)], [], (238, (upR (mnR (upR (upR (mnR R 211 8) 210 1 (some 211)) 210 2 (some 220)) 221 16) 210 3 (some 221)), (fiI (fiI (fiI (fiI (fiI (fiI (fiI (fiI (fiI (fiI (fiI I 222 520 (-1)) 223 520 (-1)) 224 520 (-1)) 225 520 (-1)) 226 520 (-1)) 227 520 (-1)) 228 520 (-1)) 229 520 (-1)) 230 520 (-1)) 231 520 (-1)) 232 520 (-1)), L))) (b := true) rfl rfl ?_
  refine Rc.goL mt_200 2 (f2 := ((if (11 : Int32) < (16 : Int32) then 47 else 77), [.ref 210, .int (11 : Int32), .int (520 : Int32)], [], (238, (upR (mnR (upR (upR (mnR R 211 8) 210 1 (some 211)) 210 2 (some 220)) 221 16) 210 3 (some 221)), (fiI (fiI (fiI (fiI (fiI (fiI (fiI (fiI (fiI (fiI (fiI I 222 520 (-1)) 223 520 (-1)) 224 520 (-1)) 225 520 (-1)) 226 520 (-1)) 227 520 (-1)) 228 520 (-1)) 229 520 (-1)) 230 520 (-1)) 231 520 (-1)) 232 520 (-1)), L))) (b := true) rfl rfl ?_
  rw [if_pos (by decide)]
  refine Rc.goL mt_200 1 (f2 := (49, [.ref 210, .int (11 : Int32), .int (0 : Int32)], [], (238, (upR (mnR (upR (upR (mnR R 211 8) 210 1 (some 211)) 210 2 (some 220)) 221 16) 210 3 (some 221)), (fiI (fiI (fiI (fiI (fiI (fiI (fiI (fiI (fiI (fiI (fiI I 222 520 (-1)) 223 520 (-1)) 224 520 (-1)) 225 520 (-1)) 226 520 (-1)) 227 520 (-1)) 228 520 (-1)) 229 520 (-1)) 230 520 (-1)) 231 520 (-1)) 232 520 (-1)), L))) (b := true) rfl rfl ?_
  refine lw_200_49_11 (by rfl) (by rfl) ?_
  have hF := hF.fi (c := 233) (N := 520) (v := -1) (by decide)
  refine Rc.goL mt_200 0 (f2 := (74, [.ref 210, .int ((11 : Int32) + 1), .int (520 : Int32)], [], (238, (upR (mnR (upR (upR (mnR R 211 8) 210 1 (some 211)) 210 2 (some 220)) 221 16) 210 3 (some 221)), (fiI (fiI (fiI (fiI (fiI (fiI (fiI (fiI (fiI (fiI (fiI (fiI I 222 520 (-1)) 223 520 (-1)) 224 520 (-1)) 225 520 (-1)) 226 520 (-1)) 227 520 (-1)) 228 520 (-1)) 229 520 (-1)) 230 520 (-1)) 231 520 (-1)) 232 520 (-1)) 233 520 (-1)), L))) (b := true) rfl rfl ?_
  rw [show (11 : Int32) + 1 = 12 from by decide]
  refine Rc.goL mt_200 0 (f2 := (41, [.ref 210, .int (12 : Int32), .int (520 : Int32)], [], (238, (upR (mnR (upR (upR (mnR R 211 8) 210 1 (some 211)) 210 2 (some 220)) 221 16) 210 3 (some 221)), (fiI (fiI (fiI (fiI (fiI (fiI (fiI (fiI (fiI (fiI (fiI (fiI I 222 520 (-1)) 223 520 (-1)) 224 520 (-1)) 225 520 (-1)) 226 520 (-1)) 227 520 (-1)) 228 520 (-1)) 229 520 (-1)) 230 520 (-1)) 231 520 (-1)) 232 520 (-1)) 233 520 (-1)), L))) (b := true) rfl rfl ?_
  refine Rc.goL mt_200 2 (f2 := ((if (12 : Int32) < (16 : Int32) then 47 else 77), [.ref 210, .int (12 : Int32), .int (520 : Int32)], [], (238, (upR (mnR (upR (upR (mnR R 211 8) 210 1 (some 211)) 210 2 (some 220)) 221 16) 210 3 (some 221)), (fiI (fiI (fiI (fiI (fiI (fiI (fiI (fiI (fiI (fiI (fiI (fiI I 222 520 (-1)) 223 520 (-1)) 224 520 (-1)) 225 520 (-1)) 226 520 (-1)) 227 520 (-1)) 228 520 (-1)) 229 520 (-1)) 230 520 (-1)) 231 520 (-1)) 232 520 (-1)) 233 520 (-1)), L))) (b := true) rfl rfl ?_
  rw [if_pos (by decide)]
  refine Rc.goL mt_200 1 (f2 := (49, [.ref 210, .int (12 : Int32), .int (0 : Int32)], [], (238, (upR (mnR (upR (upR (mnR R 211 8) 210 1 (some 211)) 210 2 (some 220)) 221 16) 210 3 (some 221)), (fiI (fiI (fiI (fiI (fiI (fiI (fiI (fiI (fiI (fiI (fiI (fiI I 222 520 (-1)) 223 520 (-1)) 224 520 (-1)) 225 520 (-1)) 226 520 (-1)) 227 520 (-1)) 228 520 (-1)) 229 520 (-1)) 230 520 (-1)) 231 520 (-1)) 232 520 (-1)) 233 520 (-1)), L))) (b := true) rfl rfl ?_
  refine lw_200_49_12 (by rfl) (by rfl) ?_
  have hF := hF.fi (c := 234) (N := 520) (v := -1) (by decide)
  refine Rc.goL mt_200 0 (f2 := (74, [.ref 210, .int ((12 : Int32) + 1), .int (520 : Int32)], [], (238, (upR (mnR (upR (upR (mnR R 211 8) 210 1 (some 211)) 210 2 (some 220)) 221 16) 210 3 (some 221)), (fiI (fiI (fiI (fiI (fiI (fiI (fiI (fiI (fiI (fiI (fiI (fiI (fiI I 222 520 (-1)) 223 520 (-1)) 224 520 (-1)) 225 520 (-1)) 226 520 (-1)) 227 520 (-1)) 228 520 (-1)) 229 520 (-1)) 230 520 (-1)) 231 520 (-1)) 232 520 (-1)) 233 520 (-1)) 234 520 (-1)), L))) (b := true) rfl rfl ?_
  rw [show (12 : Int32) + 1 = 13 from by decide]
  refine Rc.goL mt_200 0 (f2 := (41, [.ref 210, .int (13 : Int32), .int (520 : Int32)], [], (238, (upR (mnR (upR (upR (mnR R 211 8) 210 1 (some 211)) 210 2 (some 220)) 221 16) 210 3 (some 221)), (fiI (fiI (fiI (fiI (fiI (fiI (fiI (fiI (fiI (fiI (fiI (fiI (fiI I 222 520 (-1)) 223 520 (-1)) 224 520 (-1)) 225 520 (-1)) 226 520 (-1)) 227 520 (-1)) 228 520 (-1)) 229 520 (-1)) 230 520 (-1)) 231 520 (-1)) 232 520 (-1)) 233 520 (-1)) 234 520 (-1)), L))) (b := true) rfl rfl ?_
  refine Rc.goL mt_200 2 (f2 := ((if (13 : Int32) < (16 : Int32) then 47 else 77), [.ref 210, .int (13 : Int32), .int (520 : Int32)], [], (238, (upR (mnR (upR (upR (mnR R 211 8) 210 1 (some 211)) 210 2 (some 220)) 221 16) 210 3 (some 221)), (fiI (fiI (fiI (fiI (fiI (fiI (fiI (fiI (fiI (fiI (fiI (fiI (fiI I 222 520 (-1)) 223 520 (-1)) 224 520 (-1)) 225 520 (-1)) 226 520 (-1)) 227 520 (-1)) 228 520 (-1)) 229 520 (-1)) 230 520 (-1)) 231 520 (-1)) 232 520 (-1)) 233 520 (-1)) 234 520 (-1)), L))) (b := true) rfl rfl ?_
  rw [if_pos (by decide)]
  refine Rc.goL mt_200 1 (f2 := (49, [.ref 210, .int (13 : Int32), .int (0 : Int32)], [], (238, (upR (mnR (upR (upR (mnR R 211 8) 210 1 (some 211)) 210 2 (some 220)) 221 16) 210 3 (some 221)), (fiI (fiI (fiI (fiI (fiI (fiI (fiI (fiI (fiI (fiI (fiI (fiI (fiI I 222 520 (-1)) 223 520 (-1)) 224 520 (-1)) 225 520 (-1)) 226 520 (-1)) 227 520 (-1)) 228 520 (-1)) 229 520 (-1)) 230 520 (-1)) 231 520 (-1)) 232 520 (-1)) 233 520 (-1)) 234 520 (-1)), L))) (b := true) rfl rfl ?_
  refine lw_200_49_13 (by rfl) (by rfl) ?_
  have hF := hF.fi (c := 235) (N := 520) (v := -1) (by decide)
  refine Rc.goL mt_200 0 (f2 := (74, [.ref 210, .int ((13 : Int32) + 1), .int (520 : Int32)], [], (238, (upR (mnR (upR (upR (mnR R 211 8) 210 1 (some 211)) 210 2 (some 220)) 221 16) 210 3 (some 221)), (fiI (fiI (fiI (fiI (fiI (fiI (fiI (fiI (fiI (fiI (fiI (fiI (fiI (fiI I 222 520 (-1)) 223 520 (-1)) 224 520 (-1)) 225 520 (-1)) 226 520 (-1)) 227 520 (-1)) 228 520 (-1)) 229 520 (-1)) 230 520 (-1)) 231 520 (-1)) 232 520 (-1)) 233 520 (-1)) 234 520 (-1)) 235 520 (-1)), L))) (b := true) rfl rfl ?_
  rw [show (13 : Int32) + 1 = 14 from by decide]
  refine Rc.goL mt_200 0 (f2 := (41, [.ref 210, .int (14 : Int32), .int (520 : Int32)], [], (238, (upR (mnR (upR (upR (mnR R 211 8) 210 1 (some 211)) 210 2 (some 220)) 221 16) 210 3 (some 221)), (fiI (fiI (fiI (fiI (fiI (fiI (fiI (fiI (fiI (fiI (fiI (fiI (fiI (fiI I 222 520 (-1)) 223 520 (-1)) 224 520 (-1)) 225 520 (-1)) 226 520 (-1)) 227 520 (-1)) 228 520 (-1)) 229 520 (-1)) 230 520 (-1)) 231 520 (-1)) 232 520 (-1)) 233 520 (-1)) 234 520 (-1)) 235 520 (-1)), L))) (b := true) rfl rfl ?_
  refine Rc.goL mt_200 2 (f2 := ((if (14 : Int32) < (16 : Int32) then 47 else 77), [.ref 210, .int (14 : Int32), .int (520 : Int32)], [], (238, (upR (mnR (upR (upR (mnR R 211 8) 210 1 (some 211)) 210 2 (some 220)) 221 16) 210 3 (some 221)), (fiI (fiI (fiI (fiI (fiI (fiI (fiI (fiI (fiI (fiI (fiI (fiI (fiI (fiI I 222 520 (-1)) 223 520 (-1)) 224 520 (-1)) 225 520 (-1)) 226 520 (-1)) 227 520 (-1)) 228 520 (-1)) 229 520 (-1)) 230 520 (-1)) 231 520 (-1)) 232 520 (-1)) 233 520 (-1)) 234 520 (-1)) 235 520 (-1)), L))) (b := true) rfl rfl ?_
  rw [if_pos (by decide)]
  refine Rc.goL mt_200 1 (f2 := (49, [.ref 210, .int (14 : Int32), .int (0 : Int32)], [], (238, (upR (mnR (upR (upR (mnR R 211 8) 210 1 (some 211)) 210 2 (some 220)) 221 16) 210 3 (some 221)), (fiI (fiI (fiI (fiI (fiI (fiI (fiI (fiI (fiI (fiI (fiI (fiI (fiI (fiI I 222 520 (-1)) 223 520 (-1)) 224 520 (-1)) 225 520 (-1)) 226 520 (-1)) 227 520 (-1)) 228 520 (-1)) 229 520 (-1)) 230 520 (-1)) 231 520 (-1)) 232 520 (-1)) 233 520 (-1)) 234 520 (-1)) 235 520 (-1)), L))) (b := true) rfl rfl ?_
  refine lw_200_49_14 (by rfl) (by rfl) ?_
  have hF := hF.fi (c := 236) (N := 520) (v := -1) (by decide)
  refine Rc.goL mt_200 0 (f2 := (74, [.ref 210, .int ((14 : Int32) + 1), .int (520 : Int32)], [], (238, (upR (mnR (upR (upR (mnR R 211 8) 210 1 (some 211)) 210 2 (some 220)) 221 16) 210 3 (some 221)), (fiI (fiI (fiI (fiI (fiI (fiI (fiI (fiI (fiI (fiI (fiI (fiI (fiI (fiI (fiI I 222 520 (-1)) 223 520 (-1)) 224 520 (-1)) 225 520 (-1)) 226 520 (-1)) 227 520 (-1)) 228 520 (-1)) 229 520 (-1)) 230 520 (-1)) 231 520 (-1)) 232 520 (-1)) 233 520 (-1)) 234 520 (-1)) 235 520 (-1)) 236 520 (-1)), L))) (b := true) rfl rfl ?_
  rw [show (14 : Int32) + 1 = 15 from by decide]
  refine Rc.goL mt_200 0 (f2 := (41, [.ref 210, .int (15 : Int32), .int (520 : Int32)], [], (238, (upR (mnR (upR (upR (mnR R 211 8) 210 1 (some 211)) 210 2 (some 220)) 221 16) 210 3 (some 221)), (fiI (fiI (fiI (fiI (fiI (fiI (fiI (fiI (fiI (fiI (fiI (fiI (fiI (fiI (fiI I 222 520 (-1)) 223 520 (-1)) 224 520 (-1)) 225 520 (-1)) 226 520 (-1)) 227 520 (-1)) 228 520 (-1)) 229 520 (-1)) 230 520 (-1)) 231 520 (-1)) 232 520 (-1)) 233 520 (-1)) 234 520 (-1)) 235 520 (-1)) 236 520 (-1)), L))) (b := true) rfl rfl ?_
  refine Rc.goL mt_200 2 (f2 := ((if (15 : Int32) < (16 : Int32) then 47 else 77), [.ref 210, .int (15 : Int32), .int (520 : Int32)], [], (238, (upR (mnR (upR (upR (mnR R 211 8) 210 1 (some 211)) 210 2 (some 220)) 221 16) 210 3 (some 221)), (fiI (fiI (fiI (fiI (fiI (fiI (fiI (fiI (fiI (fiI (fiI (fiI (fiI (fiI (fiI I 222 520 (-1)) 223 520 (-1)) 224 520 (-1)) 225 520 (-1)) 226 520 (-1)) 227 520 (-1)) 228 520 (-1)) 229 520 (-1)) 230 520 (-1)) 231 520 (-1)) 232 520 (-1)) 233 520 (-1)) 234 520 (-1)) 235 520 (-1)) 236 520 (-1)), L))) (b := true) rfl rfl ?_
  rw [if_pos (by decide)]
  refine Rc.goL mt_200 1 (f2 := (49, [.ref 210, .int (15 : Int32), .int (0 : Int32)], [], (238, (upR (mnR (upR (upR (mnR R 211 8) 210 1 (some 211)) 210 2 (some 220)) 221 16) 210 3 (some 221)), (fiI (fiI (fiI (fiI (fiI (fiI (fiI (fiI (fiI (fiI (fiI (fiI (fiI (fiI (fiI I 222 520 (-1)) 223 520 (-1)) 224 520 (-1)) 225 520 (-1)) 226 520 (-1)) 227 520 (-1)) 228 520 (-1)) 229 520 (-1)) 230 520 (-1)) 231 520 (-1)) 232 520 (-1)) 233 520 (-1)) 234 520 (-1)) 235 520 (-1)) 236 520 (-1)), L))) (b := true) rfl rfl ?_
  refine lw_200_49_15 (by rfl) (by rfl) ?_
  have hF := hF.fi (c := 237) (N := 520) (v := -1) (by decide)
  refine Rc.goL mt_200 0 (f2 := (74, [.ref 210, .int ((15 : Int32) + 1), .int (520 : Int32)], [], (238, (upR (mnR (upR (upR (mnR R 211 8) 210 1 (some 211)) 210 2 (some 220)) 221 16) 210 3 (some 221)), (fiI (fiI (fiI (fiI (fiI (fiI (fiI (fiI (fiI (fiI (fiI (fiI (fiI (fiI (fiI (fiI I 222 520 (-1)) 223 520 (-1)) 224 520 (-1)) 225 520 (-1)) 226 520 (-1)) 227 520 (-1)) 228 520 (-1)) 229 520 (-1)) 230 520 (-1)) 231 520 (-1)) 232 520 (-1)) 233 520 (-1)) 234 520 (-1)) 235 520 (-1)) 236 520 (-1)) 237 520 (-1)), L))) (b := true) rfl rfl ?_
  rw [show (15 : Int32) + 1 = 16 from by decide]
  refine Rc.goL mt_200 0 (f2 := (41, [.ref 210, .int (16 : Int32), .int (520 : Int32)], [], (238, (upR (mnR (upR (upR (mnR R 211 8) 210 1 (some 211)) 210 2 (some 220)) 221 16) 210 3 (some 221)), (fiI (fiI (fiI (fiI (fiI (fiI (fiI (fiI (fiI (fiI (fiI (fiI (fiI (fiI (fiI (fiI I 222 520 (-1)) 223 520 (-1)) 224 520 (-1)) 225 520 (-1)) 226 520 (-1)) 227 520 (-1)) 228 520 (-1)) 229 520 (-1)) 230 520 (-1)) 231 520 (-1)) 232 520 (-1)) 233 520 (-1)) 234 520 (-1)) 235 520 (-1)) 236 520 (-1)) 237 520 (-1)), L))) (b := true) rfl rfl ?_
  refine Rc.goL mt_200 2 (f2 := ((if (16 : Int32) < (16 : Int32) then 47 else 77), [.ref 210, .int (16 : Int32), .int (520 : Int32)], [], (238, (upR (mnR (upR (upR (mnR R 211 8) 210 1 (some 211)) 210 2 (some 220)) 221 16) 210 3 (some 221)), (fiI (fiI (fiI (fiI (fiI (fiI (fiI (fiI (fiI (fiI (fiI (fiI (fiI (fiI (fiI (fiI I 222 520 (-1)) 223 520 (-1)) 224 520 (-1)) 225 520 (-1)) 226 520 (-1)) 227 520 (-1)) 228 520 (-1)) 229 520 (-1)) 230 520 (-1)) 231 520 (-1)) 232 520 (-1)) 233 520 (-1)) 234 520 (-1)) 235 520 (-1)) 236 520 (-1)) 237 520 (-1)), L))) (b := true) rfl rfl ?_
  rw [if_neg (by decide)]
  exact Rc.ret (v := none) rfl rfl
theorem mt_0 : MT 0 K_0 LN_0 := ⟨rfl, rfl, by decide +kernel⟩
theorem okm_0 : OKm 0 := ⟨⟨vE_0, okL_0, by decide +kernel⟩, by decide +kernel, by decide +kernel, by decide +kernel⟩
set_option maxRecDepth 20000 in
theorem lw_0_51_l {d : Nat} {R : MR} {I : MI} {L : ML} {res : Option Value × GM} (h0 : R 238 5 = some 243) (hk : Rc d 0 (71, [.ref 238, .int (520 : Int32)], [], (244, R, fiI I 243 520 (-1), L)) res) : ∀ (k j : Nat), j + k = 520 → Rc d 0 (51, [.ref 238, .int (Int32.ofNat j)], [], (244, R, fiI I 243 j (-1), L)) res := by
  intro k
  induction k with
  | zero =>
    intro j hj
    have hj : j = 520 := by omega
    subst hj
    refine Rc.goL mt_0 2 (f2 := (71, [.ref 238, .int (520 : Int32)], [], (244, R, fiI I 243 520 (-1), L))) (b := true) rfl rfl ?_
    exact hk
  | succ k ih =>
    intro j hj
    refine Rc.goL mt_0 2 (f2 := (if Int32.ofNat j < (520 : Int32) then 58 else 71, [.ref 238, .int (Int32.ofNat j)], [], (244, R, fiI I 243 j (-1), L))) (b := true) rfl rfl ?_
    rw [if_pos (i_lt (by rw [show Int32.toInt (520 : Int32) = 520 from by decide]; omega))]
    refine Rc.goL mt_0 1 (f2 := (62, [.ref 238, .int (Int32.ofNat j)], [rv (R 238 5)], (244, R, fiI I 243 j (-1), L))) (b := true) rfl rfl ?_
    rw [h0]
    refine Rc.goL mt_0 2 (f2 := (65, [.ref 238, .int (Int32.ofNat j)], [], (244, R, upI (fiI I 243 j (-1)) 243 (Int32.toNatClampNeg (Int32.ofNat j)) (-1), L))) (b := (ib 520 (Int32.ofNat j) && true)) rfl (and_i (i_ib (by omega) (by decide)) rfl) ?_
    rw [i_clamp (by omega), fiI_s]
    refine Rc.goL mt_0 1 (f2 := (51, [.ref 238, .int ((Int32.ofNat j) + 1)], [], (244, R, fiI I 243 (j + 1) (-1), L))) (b := true) rfl rfl ?_
    rw [i_succ]
    exact ih (j + 1) (by omega)
theorem lw_0_51 {d : Nat} {R : MR} {I : MI} {L : ML} {res : Option Value × GM} (h0 : R 238 5 = some 243) (hk : Rc d 0 (71, [.ref 238, .int (520 : Int32)], [], (244, R, fiI I 243 520 (-1), L)) res) : Rc d 0 (51, [.ref 238, .int (0 : Int32)], [], (244, R, I, L)) res := by
  have h := lw_0_51_l (d := d) (R := R) (I := I) (L := L) (res := res) h0 hk 520 0 (by omega)
  rwa [fiI_0] at h
def rn_0 (R : MR) : MR := (upR (upR (upR (upR (upR R 238 1 (some 239)) 238 2 (some 240)) 238 3 (some 241)) 238 4 (some 242)) 238 5 (some 243))
def in_0 (I : MI) : MI := (fiI I 243 520 (-1))
theorem cf_0 {R : MR} {I : MI} {L : ML} (hF : FM 239 R I L) : FM 244 (rn_0 R) (in_0 I) L := by
  have hF := (hF.mk1 (m := 240) rfl (by decide)).2
  have hF := hF.uR (c := 238) (i := 1) (v := some 239) (by decide)
  have hF := (hF.mk1 (m := 241) rfl (by decide)).2
  have hF := hF.uR (c := 238) (i := 2) (v := some 240) (by decide)
  have hF := (hF.mk1 (m := 242) rfl (by decide)).2
  have hF := hF.uR (c := 238) (i := 3) (v := some 241) (by decide)
  have hF := (hF.mk1 (m := 243) rfl (by decide)).2
  have hF := hF.uR (c := 238) (i := 4) (v := some 242) (by decide)
  have hF := (hF.mk1 (m := 244) rfl (by decide)).2
  have hF := hF.uR (c := 238) (i := 5) (v := some 243) (by decide)
  have hF := hF.fi (c := 243) (N := 520) (v := -1) (by decide)
  exact hF
set_option maxRecDepth 20000 in
theorem cn_0 {d : Nat} (hd : 1 ≤ d) {R : MR} {I : MI} {L : ML} (hF : FM 239 R I L) : Ex d 0 [.ref 238] (239, R, I, L) (none, (244, rn_0 R, (in_0 I), L)) := by
  obtain ⟨d, rfl⟩ : ∃ d0, d = d0 + 1 := ⟨d - 1, by omega⟩
  refine Ex.of okm_0 (by omega) (Nat.le_of_ble_eq_true rfl) ?_
  show Rc (d + 1) 0 (0, [.ref 238, UU], [], (239, R, I, L)) _
  refine Rc.goL mt_0 3 (f2 := (8, [.ref 238, UU], [.int (200 : Int32), .ref 238], (239, R, I, L))) (b := true) rfl rfl ?_
  refine Rc.goL mt_0 0 (f2 := (10, [.ref 238, UU], [.ref 239, .ref 238], nw (239, R, I, L))) (b := ((Nat.beq (K0 239) (kAT .int) && decide (¬ (200 : Int32) < 0) && Nat.beq (Int32.toNatClampNeg (200 : Int32)) (Z0 239)) && true)) rfl (by decide +kernel) ?_
  rw [(hF.mk1 (m := 240) rfl (by decide)).1]
  have hF := (hF.mk1 (m := 240) rfl (by decide)).2
  refine Rc.goL mt_0 0 (f2 := (13, [.ref 238, UU], [], (240, (upR R 238 1 (some 239)), I, L))) (b := true) rfl rfl ?_
  have hF := hF.uR (c := 238) (i := 1) (v := some 239) (by decide)
  refine Rc.goL mt_0 1 (f2 := (17, [.ref 238, UU], [.int (200 : Int32), .ref 238], (240, (upR R 238 1 (some 239)), I, L))) (b := true) rfl rfl ?_
  refine Rc.goL mt_0 0 (f2 := (19, [.ref 238, UU], [.ref 240, .ref 238], nw (240, (upR R 238 1 (some 239)), I, L))) (b := ((Nat.beq (K0 240) (kAT .int) && decide (¬ (200 : Int32) < 0) && Nat.beq (Int32.toNatClampNeg (200 : Int32)) (Z0 240)) && true)) rfl (by decide +kernel) ?_
  rw [(hF.mk1 (m := 241) rfl (by decide)).1]
  have hF := (hF.mk1 (m := 241) rfl (by decide)).2
  refine Rc.goL mt_0 0 (f2 := (22, [.ref 238, UU], [], (241, (upR (upR R 238 1 (some 239)) 238 2 (some 240)), I, L))) (b := true) rfl rfl ?_
  have hF := hF.uR (c := 238) (i := 2) (v := some 240) (by decide)
  refine Rc.goL mt_0 1 (f2 := (26, [.ref 238, UU], [.int (200 : Int32), .ref 238], (241, (upR (upR R 238 1 (some 239)) 238 2 (some 240)), I, L))) (b := true) rfl rfl ?_
  refine Rc.goL mt_0 0 (f2 := (28, [.ref 238, UU], [.ref 241, .ref 238], nw (241, (upR (upR R 238 1 (some 239)) 238 2 (some 240)), I, L))) (b := ((Nat.beq (K0 241) (kAT .int) && decide (¬ (200 : Int32) < 0) && Nat.beq (Int32.toNatClampNeg (200 : Int32)) (Z0 241)) && true)) rfl (by decide +kernel) ?_
  rw [(hF.mk1 (m := 242) rfl (by decide)).1]
  have hF := (hF.mk1 (m := 242) rfl (by decide)).2
  refine Rc.goL mt_0 0 (f2 := (31, [.ref 238, UU], [], (242, (upR (upR (upR R 238 1 (some 239)) 238 2 (some 240)) 238 3 (some 241)), I, L))) (b := true) rfl rfl ?_
  have hF := hF.uR (c := 238) (i := 3) (v := some 241) (by decide)
  refine Rc.goL mt_0 1 (f2 := (35, [.ref 238, UU], [.int (200 : Int32), .ref 238], (242, (upR (upR (upR R 238 1 (some 239)) 238 2 (some 240)) 238 3 (some 241)), I, L))) (b := true) rfl rfl ?_
  refine Rc.goL mt_0 0 (f2 := (37, [.ref 238, UU], [.ref 242, .ref 238], nw (242, (upR (upR (upR R 238 1 (some 239)) 238 2 (some 240)) 238 3 (some 241)), I, L))) (b := ((Nat.beq (K0 242) (kAT .int) && decide (¬ (200 : Int32) < 0) && Nat.beq (Int32.toNatClampNeg (200 : Int32)) (Z0 242)) && true)) rfl (by decide +kernel) ?_
  rw [(hF.mk1 (m := 243) rfl (by decide)).1]
  have hF := (hF.mk1 (m := 243) rfl (by decide)).2
  refine Rc.goL mt_0 0 (f2 := (40, [.ref 238, UU], [], (243, (upR (upR (upR (upR R 238 1 (some 239)) 238 2 (some 240)) 238 3 (some 241)) 238 4 (some 242)), I, L))) (b := true) rfl rfl ?_
  have hF := hF.uR (c := 238) (i := 4) (v := some 242) (by decide)
  refine Rc.goL mt_0 1 (f2 := (44, [.ref 238, UU], [.int (520 : Int32), .ref 238], (243, (upR (upR (upR (upR R 238 1 (some 239)) 238 2 (some 240)) 238 3 (some 241)) 238 4 (some 242)), I, L))) (b := true) rfl rfl ?_
  refine Rc.goL mt_0 0 (f2 := (46, [.ref 238, UU], [.ref 243, .ref 238], nw (243, (upR (upR (upR (upR R 238 1 (some 239)) 238 2 (some 240)) 238 3 (some 241)) 238 4 (some 242)), I, L))) (b := ((Nat.beq (K0 243) (kAT .int) && decide (¬ (520 : Int32) < 0) && Nat.beq (Int32.toNatClampNeg (520 : Int32)) (Z0 243)) && true)) rfl (by decide +kernel) ?_
  rw [(hF.mk1 (m := 244) rfl (by decide)).1]
  have hF := (hF.mk1 (m := 244) rfl (by decide)).2
  refine Rc.goL mt_0 0 (f2 := (49, [.ref 238, UU], [], (244, (upR (upR (upR (upR (upR R 238 1 (some 239)) 238 2 (some 240)) 238 3 (some 241)) 238 4 (some 242)) 238 5 (some 243)), I, L))) (b := true) rfl rfl ?_
  have hF := hF.uR (c := 238) (i := 5) (v := some 243) (by decide)
  refine Rc.goL mt_0 1 (f2 := (51, [.ref 238, .int (0 : Int32)], [], (244, (upR (upR (upR (upR (upR R 238 1 (some 239)) 238 2 (some 240)) 238 3 (some 241)) 238 4 (some 242)) 238 5 (some 243)), I, L))) (b := true) rfl rfl ?_
  refine lw_0_51 (by rfl) ?_
  have hF := hF.fi (c := 243) (N := 520) (v := -1) (by decide)
  exact Rc.ret (v := none) rfl rfl
theorem mt_500 : MT 500 K_500 LN_5 := ⟨rfl, rfl, by decide +kernel⟩
theorem okm_500 : OKm 500 := ⟨⟨vE_500, okL_5, by decide +kernel⟩, by decide +kernel, by decide +kernel, by decide +kernel⟩
def rn_500 (R : MR) : MR := (upR (upR (mnR (upR (mnR (upR R 244 8 (some 245)) 246 10) 244 9 (some 246)) 257 11) 244 10 (some 257)) 244 11 (some 269))
theorem cf_500 {R : MR} {I : MI} {L : ML} (hF : FM 245 R I L) : FM 270 (rn_500 R) I L := by
  have hF := (hF.mk1 (m := 246) rfl (by decide)).2
  have hF := hF.uR (c := 244) (i := 8) (v := some 245) (by decide)
  have hF := (hF.mkm 10 (m := 257) rfl (by decide)).2
  have hF := hF.uR (c := 244) (i := 9) (v := some 246) (by decide)
  have hF := (hF.mkm 11 (m := 269) rfl (by decide)).2
  have hF := hF.uR (c := 244) (i := 10) (v := some 257) (by decide)
  have hF := (hF.mk1 (m := 270) rfl (by decide)).2
  have hF := hF.uR (c := 244) (i := 11) (v := some 269) (by decide)
  exact hF
set_option maxRecDepth 20000 in
theorem cn_500 {d : Nat} (hd : 1 ≤ d) {R : MR} {I : MI} {L : ML} (hF : FM 245 R I L) : Ex d 500 [.ref 244] (245, R, I, L) (none, (270, rn_500 R, I, L)) := by
  obtain ⟨d, rfl⟩ : ∃ d0, d = d0 + 1 := ⟨d - 1, by omega⟩
  refine Ex.of okm_500 (by omega) (Nat.le_of_ble_eq_true rfl) ?_
  show Rc (d + 1) 500 (0, [.ref 244], [], (245, R, I, L)) _
  refine Rc.goL mt_500 3 (f2 := (7, [.ref 244], [.int (10 : Int32), .ref 244], (245, R, I, L))) (b := true) rfl rfl ?_
  refine Rc.goL mt_500 0 (f2 := (9, [.ref 244], [.ref 245, .ref 244], nw (245, R, I, L))) (b := ((Nat.beq (K0 245) (kAT .int) && decide (¬ (10 : Int32) < 0) && Nat.beq (Int32.toNatClampNeg (10 : Int32)) (Z0 245)) && true)) rfl (by decide +kernel) ?_
  rw [(hF.mk1 (m := 246) rfl (by decide)).1]
  have hF := (hF.mk1 (m := 246) rfl (by decide)).2
  refine Rc.goL mt_500 0 (f2 := (12, [.ref 244], [], (246, (upR R 244 8 (some 245)), I, L))) (b := true) rfl rfl ?_
  have hF := hF.uR (c := 244) (i := 8) (v := some 245) (by decide)
  refine Rc.goL mt_500 2 (f2 := (17, [.ref 244], [.int (25 : Int32), .int (10 : Int32), .ref 244], (246, (upR R 244 8 (some 245)), I, L))) (b := true) rfl rfl ?_
  refine Rc.goL mt_500 0 (f2 := (21, [.ref 244], [.ref 246, .ref 244], nwm 10 (246, (upR R 244 8 (some 245)), I, L))) (b := ((Nat.beq (15 : Nat) 15 && Nat.beq (K0 246) 27 && decide (¬ (10 : Int32) < 0) && decide (¬ (25 : Int32) < 0) && Nat.beq (Int32.toNatClampNeg (10 : Int32)) (Z0 246) && (List.range (Z0 246)).all (fun j => Nat.beq (K0 (246 + 1 + j)) 21 && Nat.beq (Z0 (246 + 1 + j)) (Int32.toNatClampNeg (25 : Int32)))) && true)) rfl (by decide +kernel) ?_
  rw [(hF.mkm 10 (m := 257) rfl (by decide)).1]
  have hF := (hF.mkm 10 (m := 257) rfl (by decide)).2
  refine Rc.goL mt_500 0 (f2 := (24, [.ref 244], [], (257, (upR (mnR (upR R 244 8 (some 245)) 246 10) 244 9 (some 246)), I, L))) (b := true) rfl rfl ?_
  have hF := hF.uR (c := 244) (i := 9) (v := some 246) (by decide)
  refine Rc.goL mt_500 2 (f2 := (29, [.ref 244], [.int (61 : Int32), .int (11 : Int32), .ref 244], (257, (upR (mnR (upR R 244 8 (some 245)) 246 10) 244 9 (some 246)), I, L))) (b := true) rfl rfl ?_
  refine Rc.goL mt_500 0 (f2 := (33, [.ref 244], [.ref 257, .ref 244], nwm 11 (257, (upR (mnR (upR R 244 8 (some 245)) 246 10) 244 9 (some 246)), I, L))) (b := ((Nat.beq (15 : Nat) 15 && Nat.beq (K0 257) 27 && decide (¬ (11 : Int32) < 0) && decide (¬ (61 : Int32) < 0) && Nat.beq (Int32.toNatClampNeg (11 : Int32)) (Z0 257) && (List.range (Z0 257)).all (fun j => Nat.beq (K0 (257 + 1 + j)) 21 && Nat.beq (Z0 (257 + 1 + j)) (Int32.toNatClampNeg (61 : Int32)))) && true)) rfl (by decide +kernel) ?_
  rw [(hF.mkm 11 (m := 269) rfl (by decide)).1]
  have hF := (hF.mkm 11 (m := 269) rfl (by decide)).2
  refine Rc.goL mt_500 0 (f2 := (36, [.ref 244], [], (269, (upR (mnR (upR (mnR (upR R 244 8 (some 245)) 246 10) 244 9 (some 246)) 257 11) 244 10 (some 257)), I, L))) (b := true) rfl rfl ?_
  have hF := hF.uR (c := 244) (i := 10) (v := some 257) (by decide)
  refine Rc.goL mt_500 1 (f2 := (39, [.ref 244], [.int (16 : Int32), .ref 244], (269, (upR (mnR (upR (mnR (upR R 244 8 (some 245)) 246 10) 244 9 (some 246)) 257 11) 244 10 (some 257)), I, L))) (b := true) rfl rfl ?_
  refine Rc.goL mt_500 0 (f2 := (41, [.ref 244], [.ref 269, .ref 244], nw (269, (upR (mnR (upR (mnR (upR R 244 8 (some 245)) 246 10) 244 9 (some 246)) 257 11) 244 10 (some 257)), I, L))) (b := ((Nat.beq (K0 269) (kAT .int) && decide (¬ (16 : Int32) < 0) && Nat.beq (Int32.toNatClampNeg (16 : Int32)) (Z0 269)) && true)) rfl (by decide +kernel) ?_
  rw [(hF.mk1 (m := 270) rfl (by decide)).1]
  have hF := (hF.mk1 (m := 270) rfl (by decide)).2
  refine Rc.goL mt_500 0 (f2 := (44, [.ref 244], [], (270, (upR (upR (mnR (upR (mnR (upR R 244 8 (some 245)) 246 10) 244 9 (some 246)) 257 11) 244 10 (some 257)) 244 11 (some 269)), I, L))) (b := true) rfl rfl ?_
  have hF := hF.uR (c := 244) (i := 11) (v := some 269) (by decide)
  exact Rc.ret (v := none) rfl rfl
theorem mt_400 : MT 400 K_400 LN_4 := ⟨rfl, rfl, by decide +kernel⟩
theorem okm_400 : OKm 400 := ⟨⟨vE_400, okL_4, by decide +kernel⟩, by decide +kernel, by decide +kernel, by decide +kernel⟩
def rn_400 (R : MR) : MR := (upR (upR R 270 1 (some 271)) 270 2 (some 272))
theorem cf_400 {R : MR} {I : MI} {L : ML} (hF : FM 271 R I L) : FM 273 (rn_400 R) I L := by
  have hF := (hF.mk1 (m := 272) rfl (by decide)).2
  have hF := hF.uR (c := 270) (i := 1) (v := some 271) (by decide)
  have hF := (hF.mk1 (m := 273) rfl (by decide)).2
  have hF := hF.uR (c := 270) (i := 2) (v := some 272) (by decide)
  exact hF
set_option maxRecDepth 20000 in
theorem cn_400 {d : Nat} (hd : 1 ≤ d) {R : MR} {I : MI} {L : ML} (hF : FM 271 R I L) : Ex d 400 [.ref 270] (271, R, I, L) (none, (273, rn_400 R, I, L)) := by
  obtain ⟨d, rfl⟩ : ∃ d0, d = d0 + 1 := ⟨d - 1, by omega⟩
  refine Ex.of okm_400 (by omega) (Nat.le_of_ble_eq_true rfl) ?_
  show Rc (d + 1) 400 (0, [.ref 270], [], (271, R, I, L)) _
  refine Rc.goL mt_400 3 (f2 := (7, [.ref 270], [.int (40 : Int32), .ref 270], (271, R, I, L))) (b := true) rfl rfl ?_
  refine Rc.goL mt_400 0 (f2 := (9, [.ref 270], [.ref 271, .ref 270], nw (271, R, I, L))) (b := ((Nat.beq (K0 271) (kAT .int) && decide (¬ (40 : Int32) < 0) && Nat.beq (Int32.toNatClampNeg (40 : Int32)) (Z0 271)) && true)) rfl (by decide +kernel) ?_
  rw [(hF.mk1 (m := 272) rfl (by decide)).1]
  have hF := (hF.mk1 (m := 272) rfl (by decide)).2
  refine Rc.goL mt_400 0 (f2 := (12, [.ref 270], [], (272, (upR R 270 1 (some 271)), I, L))) (b := true) rfl rfl ?_
  have hF := hF.uR (c := 270) (i := 1) (v := some 271) (by decide)
  refine Rc.goL mt_400 1 (f2 := (15, [.ref 270], [.int (40 : Int32), .ref 270], (272, (upR R 270 1 (some 271)), I, L))) (b := true) rfl rfl ?_
  refine Rc.goL mt_400 0 (f2 := (17, [.ref 270], [.ref 272, .ref 270], nw (272, (upR R 270 1 (some 271)), I, L))) (b := ((Nat.beq (K0 272) (kAT .int) && decide (¬ (40 : Int32) < 0) && Nat.beq (Int32.toNatClampNeg (40 : Int32)) (Z0 272)) && true)) rfl (by decide +kernel) ?_
  rw [(hF.mk1 (m := 273) rfl (by decide)).1]
  have hF := (hF.mk1 (m := 273) rfl (by decide)).2
  refine Rc.goL mt_400 0 (f2 := (20, [.ref 270], [], (273, (upR (upR R 270 1 (some 271)) 270 2 (some 272)), I, L))) (b := true) rfl rfl ?_
  have hF := hF.uR (c := 270) (i := 2) (v := some 272) (by decide)
  exact Rc.ret (v := none) rfl rfl
theorem mt_100 : MT 100 K_100 LN_1 := ⟨rfl, rfl, by decide +kernel⟩
theorem okm_100 : OKm 100 := ⟨⟨vE_100, okL_1, by decide +kernel⟩, by decide +kernel, by decide +kernel, by decide +kernel⟩
def rn_100 (R : MR) : MR := (upR (upR (upR (upR R 273 1 (some 274)) 273 2 (some 275)) 273 3 (some 276)) 273 4 (some 277))
theorem cf_100 {R : MR} {I : MI} {L : ML} (hF : FM 274 R I L) : FM 278 (rn_100 R) I L := by
  have hF := (hF.mk1 (m := 275) rfl (by decide)).2
  have hF := hF.uR (c := 273) (i := 1) (v := some 274) (by decide)
  have hF := (hF.mk1 (m := 276) rfl (by decide)).2
  have hF := hF.uR (c := 273) (i := 2) (v := some 275) (by decide)
  have hF := (hF.mk1 (m := 277) rfl (by decide)).2
  have hF := hF.uR (c := 273) (i := 3) (v := some 276) (by decide)
  have hF := (hF.mk1 (m := 278) rfl (by decide)).2
  have hF := hF.uR (c := 273) (i := 4) (v := some 277) (by decide)
  exact hF
set_option maxRecDepth 20000 in
theorem cn_100 {d : Nat} (hd : 1 ≤ d) {R : MR} {I : MI} {L : ML} (hF : FM 274 R I L) : Ex d 100 [.ref 273] (274, R, I, L) (none, (278, rn_100 R, I, L)) := by
  obtain ⟨d, rfl⟩ : ∃ d0, d = d0 + 1 := ⟨d - 1, by omega⟩
  refine Ex.of okm_100 (by omega) (Nat.le_of_ble_eq_true rfl) ?_
  show Rc (d + 1) 100 (0, [.ref 273], [], (274, R, I, L)) _
  refine Rc.goL mt_100 3 (f2 := (7, [.ref 273], [.int (18 : Int32), .ref 273], (274, R, I, L))) (b := true) rfl rfl ?_
  refine Rc.goL mt_100 0 (f2 := (9, [.ref 273], [.ref 274, .ref 273], nw (274, R, I, L))) (b := ((Nat.beq (K0 274) (kAT .long) && decide (¬ (18 : Int32) < 0) && Nat.beq (Int32.toNatClampNeg (18 : Int32)) (Z0 274)) && true)) rfl (by decide +kernel) ?_
  rw [(hF.mk1 (m := 275) rfl (by decide)).1]
  have hF := (hF.mk1 (m := 275) rfl (by decide)).2
  refine Rc.goL mt_100 0 (f2 := (12, [.ref 273], [], (275, (upR R 273 1 (some 274)), I, L))) (b := true) rfl rfl ?_
  have hF := hF.uR (c := 273) (i := 1) (v := some 274) (by decide)
  refine Rc.goL mt_100 1 (f2 := (15, [.ref 273], [.int (12 : Int32), .ref 273], (275, (upR R 273 1 (some 274)), I, L))) (b := true) rfl rfl ?_
  refine Rc.goL mt_100 0 (f2 := (17, [.ref 273], [.ref 275, .ref 273], nw (275, (upR R 273 1 (some 274)), I, L))) (b := ((Nat.beq (K0 275) (kAT .long) && decide (¬ (12 : Int32) < 0) && Nat.beq (Int32.toNatClampNeg (12 : Int32)) (Z0 275)) && true)) rfl (by decide +kernel) ?_
  rw [(hF.mk1 (m := 276) rfl (by decide)).1]
  have hF := (hF.mk1 (m := 276) rfl (by decide)).2
  refine Rc.goL mt_100 0 (f2 := (20, [.ref 273], [], (276, (upR (upR R 273 1 (some 274)) 273 2 (some 275)), I, L))) (b := true) rfl rfl ?_
  have hF := hF.uR (c := 273) (i := 2) (v := some 275) (by decide)
  refine Rc.goL mt_100 1 (f2 := (24, [.ref 273], [.int (4096 : Int32), .ref 273], (276, (upR (upR R 273 1 (some 274)) 273 2 (some 275)), I, L))) (b := true) rfl rfl ?_
  refine Rc.goL mt_100 0 (f2 := (26, [.ref 273], [.ref 276, .ref 273], nw (276, (upR (upR R 273 1 (some 274)) 273 2 (some 275)), I, L))) (b := ((Nat.beq (K0 276) (kAT .long) && decide (¬ (4096 : Int32) < 0) && Nat.beq (Int32.toNatClampNeg (4096 : Int32)) (Z0 276)) && true)) rfl (by decide +kernel) ?_
  rw [(hF.mk1 (m := 277) rfl (by decide)).1]
  have hF := (hF.mk1 (m := 277) rfl (by decide)).2
  refine Rc.goL mt_100 0 (f2 := (29, [.ref 273], [], (277, (upR (upR (upR R 273 1 (some 274)) 273 2 (some 275)) 273 3 (some 276)), I, L))) (b := true) rfl rfl ?_
  have hF := hF.uR (c := 273) (i := 3) (v := some 276) (by decide)
  refine Rc.goL mt_100 1 (f2 := (33, [.ref 273], [.int (4096 : Int32), .ref 273], (277, (upR (upR (upR R 273 1 (some 274)) 273 2 (some 275)) 273 3 (some 276)), I, L))) (b := true) rfl rfl ?_
  refine Rc.goL mt_100 0 (f2 := (35, [.ref 273], [.ref 277, .ref 273], nw (277, (upR (upR (upR R 273 1 (some 274)) 273 2 (some 275)) 273 3 (some 276)), I, L))) (b := ((Nat.beq (K0 277) (kAT .int) && decide (¬ (4096 : Int32) < 0) && Nat.beq (Int32.toNatClampNeg (4096 : Int32)) (Z0 277)) && true)) rfl (by decide +kernel) ?_
  rw [(hF.mk1 (m := 278) rfl (by decide)).1]
  have hF := (hF.mk1 (m := 278) rfl (by decide)).2
  refine Rc.goL mt_100 0 (f2 := (38, [.ref 273], [], (278, (upR (upR (upR (upR R 273 1 (some 274)) 273 2 (some 275)) 273 3 (some 276)) 273 4 (some 277)), I, L))) (b := true) rfl rfl ?_
  have hF := hF.uR (c := 273) (i := 4) (v := some 277) (by decide)
  exact Rc.ret (v := none) rfl rfl
theorem mt_300 : MT 300 K_300 LN_3 := ⟨rfl, rfl, by decide +kernel⟩
theorem okm_300 : OKm 300 := ⟨⟨vE_300, okL_3, by decide +kernel⟩, by decide +kernel, by decide +kernel, by decide +kernel⟩
def rn_300 (R : MR) : MR := (upR R 278 2 (some 279))
theorem cf_300 {R : MR} {I : MI} {L : ML} (hF : FM 279 R I L) : FM 280 (rn_300 R) I L := by
  have hF := (hF.mk1 (m := 280) rfl (by decide)).2
  have hF := hF.uR (c := 278) (i := 2) (v := some 279) (by decide)
  exact hF
set_option maxRecDepth 20000 in
theorem cn_300 {d : Nat} (hd : 1 ≤ d) {R : MR} {I : MI} {L : ML} (hF : FM 279 R I L) : Ex d 300 [.ref 278] (279, R, I, L) (none, (280, rn_300 R, I, L)) := by
  obtain ⟨d, rfl⟩ : ∃ d0, d = d0 + 1 := ⟨d - 1, by omega⟩
  refine Ex.of okm_300 (by omega) (Nat.le_of_ble_eq_true rfl) ?_
  show Rc (d + 1) 300 (0, [.ref 278], [], (279, R, I, L)) _
  refine Rc.goL mt_300 3 (f2 := (7, [.ref 278], [.int (12 : Int32), .ref 278], (279, R, I, L))) (b := true) rfl rfl ?_
  refine Rc.goL mt_300 0 (f2 := (9, [.ref 278], [.ref 279, .ref 278], nw (279, R, I, L))) (b := ((Nat.beq (K0 279) (kAT .boolean) && decide (¬ (12 : Int32) < 0) && Nat.beq (Int32.toNatClampNeg (12 : Int32)) (Z0 279)) && true)) rfl (by decide +kernel) ?_
  rw [(hF.mk1 (m := 280) rfl (by decide)).1]
  have hF := (hF.mk1 (m := 280) rfl (by decide)).2
  refine Rc.goL mt_300 0 (f2 := (12, [.ref 278], [], (280, (upR R 278 2 (some 279)), I, L))) (b := true) rfl rfl ?_
  have hF := hF.uR (c := 278) (i := 2) (v := some 279) (by decide)
  exact Rc.ret (v := none) rfl rfl
theorem mt_1100 : MT 1100 K_1100 LN_11 := ⟨rfl, rfl, by decide +kernel⟩
theorem okm_1100 : OKm 1100 := ⟨⟨vE_1100, okL_11, by decide +kernel⟩, by decide +kernel, by decide +kernel, by decide +kernel⟩
def rn_1100 (R : MR) : MR := (upR (rn_300 (upR (rn_100 (upR (rn_400 (upR (rn_500 (upR (rn_0 (upR (rn_200 (upR (rn_1000 (upR (rn_600 (upR (rn_700 (upR (rn_900 R) 0 0 (some 1))) 0 1 (some 3))) 0 2 (some 12))) 0 3 (some 179))) 0 4 (some 210))) 0 5 (some 238))) 0 6 (some 244))) 0 7 (some 270))) 0 8 (some 273))) 0 9 (some 278))
def in_1100 (I : MI) : MI := (upI (upI (in_0 (in_200 (in_1000 (in_700 (in_900 I))))) 0 10 (0 : Int32)) 0 11 (5 : Int32))
theorem cf_1100 {R : MR} {I : MI} {L : ML} (hF : FM 1 R I L) : FM 280 (rn_1100 R) (in_1100 I) L := by
  have hF := (hF.mk1 (m := 2) rfl (by decide)).2
  have hF := cf_900 hF
  have hF := hF.uR (c := 0) (i := 0) (v := some 1) (by decide)
  have hF := (hF.mk1 (m := 4) rfl (by decide)).2
  have hF := cf_700 hF
  have hF := hF.uR (c := 0) (i := 1) (v := some 3) (by decide)
  have hF := (hF.mk1 (m := 13) rfl (by decide)).2
  have hF := cf_600 hF
  have hF := hF.uR (c := 0) (i := 2) (v := some 12) (by decide)
  have hF := (hF.mk1 (m := 180) rfl (by decide)).2
  have hF := cf_1000 hF
  have hF := hF.uR (c := 0) (i := 3) (v := some 179) (by decide)
  have hF := (hF.mk1 (m := 211) rfl (by decide)).2
  have hF := cf_200 hF
  have hF := hF.uR (c := 0) (i := 4) (v := some 210) (by decide)
  have hF := (hF.mk1 (m := 239) rfl (by decide)).2
  have hF := cf_0 hF
  have hF := hF.uR (c := 0) (i := 5) (v := some 238) (by decide)
  have hF := (hF.mk1 (m := 245) rfl (by decide)).2
  have hF := cf_500 hF
  have hF := hF.uR (c := 0) (i := 6) (v := some 244) (by decide)
  have hF := (hF.mk1 (m := 271) rfl (by decide)).2
  have hF := cf_400 hF
  have hF := hF.uR (c := 0) (i := 7) (v := some 270) (by decide)
  have hF := (hF.mk1 (m := 274) rfl (by decide)).2
  have hF := cf_100 hF
  have hF := hF.uR (c := 0) (i := 8) (v := some 273) (by decide)
  have hF := (hF.mk1 (m := 279) rfl (by decide)).2
  have hF := cf_300 hF
  have hF := hF.uR (c := 0) (i := 9) (v := some 278) (by decide)
  have hF := hF.uI (c := 0) (i := 10) (v := (0 : Int32)) (by decide)
  have hF := hF.uI (c := 0) (i := 11) (v := (5 : Int32)) (by decide)
  exact hF
set_option maxRecDepth 20000 in
theorem cn_1100 {d : Nat} (hd : 3 ≤ d) {R : MR} {I : MI} {L : ML} (hF : FM 1 R I L) : Ex d 1100 [.ref 0] (1, R, I, L) (none, (280, rn_1100 R, (in_1100 I), L)) := by
  obtain ⟨d, rfl⟩ : ∃ d0, d = d0 + 1 := ⟨d - 1, by omega⟩
  refine Ex.of okm_1100 (by omega) (Nat.le_of_ble_eq_true rfl) ?_
  show Rc (d + 1) 1100 (0, [.ref 0], [], (1, R, I, L)) _
  refine Rc.goL mt_1100 2 (f2 := (5, [.ref 0], [.ref 0], (1, R, I, L))) (b := true) rfl rfl ?_
  refine Rc.goL mt_1100 0 (f2 := (8, [.ref 0], [.ref 1, .ref 0], nw (1, R, I, L))) (b := ((Nat.beq (7 : Nat) 7 && Nat.beq (K0 1) 9 && Nat.beq (Z0 1) (nf 9)) && true)) rfl (by decide +kernel) ?_
  rw [(hF.mk1 (m := 2) rfl (by decide)).1]
  have hF := (hF.mk1 (m := 2) rfl (by decide)).2
  refine Rc.goL mt_1100 0 (f2 := (9, [.ref 0], [.ref 1, .ref 1, .ref 0], (2, R, I, L))) (b := true) rfl rfl ?_
  refine Rc.callI (i := 9) (mid' := 900) (av := []) (rest := [.ref 1, .ref 0]) (v := none) (M1 := (3, (rn_900 R), (in_900 I), L)) (a := 1) rfl rfl rfl cw_900 rfl rfl (Nat.le_of_ble_eq_true rfl) (cn_900 (by omega) hF) ?_
  have hF := cf_900 hF
  refine Rc.goL mt_1100 0 (f2 := (15, [.ref 0], [], (3, (upR (rn_900 R) 0 0 (some 1)), (in_900 I), L))) (b := true) rfl rfl ?_
  have hF := hF.uR (c := 0) (i := 0) (v := some 1) (by decide)
  refine Rc.goL mt_1100 0 (f2 := (16, [.ref 0], [.ref 0], (3, (upR (rn_900 R) 0 0 (some 1)), (in_900 I), L))) (b := true) rfl rfl ?_
  refine Rc.goL mt_1100 0 (f2 := (19, [.ref 0], [.ref 3, .ref 0], nw (3, (upR (rn_900 R) 0 0 (some 1)), (in_900 I), L))) (b := ((Nat.beq (7 : Nat) 7 && Nat.beq (K0 3) 7 && Nat.beq (Z0 3) (nf 7)) && true)) rfl (by decide +kernel) ?_
  rw [(hF.mk1 (m := 4) rfl (by decide)).1]
  have hF := (hF.mk1 (m := 4) rfl (by decide)).2
  refine Rc.goL mt_1100 2 (f2 := (24, [.ref 0], [.ref 1, .ref 3, .ref 3, .ref 0], (4, (upR (rn_900 R) 0 0 (some 1)), (in_900 I), L))) (b := true) rfl rfl ?_
  refine Rc.callI (i := 18) (mid' := 700) (av := [.ref 1]) (rest := [.ref 3, .ref 0]) (v := none) (M1 := (12, (rn_700 (upR (rn_900 R) 0 0 (some 1))), (in_700 (in_900 I)), L)) (a := 3) rfl rfl rfl cw_700 rfl rfl (Nat.le_of_ble_eq_true rfl) (cn_700 (by omega) hF) ?_
  have hF := cf_700 hF
  refine Rc.goL mt_1100 0 (f2 := (30, [.ref 0], [], (12, (upR (rn_700 (upR (rn_900 R) 0 0 (some 1))) 0 1 (some 3)), (in_700 (in_900 I)), L))) (b := true) rfl rfl ?_
  have hF := hF.uR (c := 0) (i := 1) (v := some 3) (by decide)
  refine Rc.goL mt_1100 0 (f2 := (31, [.ref 0], [.ref 0], (12, (upR (rn_700 (upR (rn_900 R) 0 0 (some 1))) 0 1 (some 3)), (in_700 (in_900 I)), L))) (b := true) rfl rfl ?_
  refine Rc.goL mt_1100 0 (f2 := (34, [.ref 0], [.ref 12, .ref 0], nw (12, (upR (rn_700 (upR (rn_900 R) 0 0 (some 1))) 0 1 (some 3)), (in_700 (in_900 I)), L))) (b := ((Nat.beq (7 : Nat) 7 && Nat.beq (K0 12) 6 && Nat.beq (Z0 12) (nf 6)) && true)) rfl (by decide +kernel) ?_
  rw [(hF.mk1 (m := 13) rfl (by decide)).1]
  have hF := (hF.mk1 (m := 13) rfl (by decide)).2
  refine Rc.goL mt_1100 0 (f2 := (35, [.ref 0], [.ref 12, .ref 12, .ref 0], (13, (upR (rn_700 (upR (rn_900 R) 0 0 (some 1))) 0 1 (some 3)), (in_700 (in_900 I)), L))) (b := true) rfl rfl ?_
  refine Rc.callI (i := 27) (mid' := 600) (av := []) (rest := [.ref 12, .ref 0]) (v := none) (M1 := (179, (rn_600 (upR (rn_700 (upR (rn_900 R) 0 0 (some 1))) 0 1 (some 3))), (in_700 (in_900 I)), L)) (a := 12) rfl rfl rfl cw_600 rfl rfl (Nat.le_of_ble_eq_true rfl) (cn_600 (by omega) hF) ?_
  have hF := cf_600 hF
  refine Rc.goL mt_1100 0 (f2 := (41, [.ref 0], [], (179, (upR (rn_600 (upR (rn_700 (upR (rn_900 R) 0 0 (some 1))) 0 1 (some 3))) 0 2 (some 12)), (in_700 (in_900 I)), L))) (b := true) rfl rfl ?_
  have hF := hF.uR (c := 0) (i := 2) (v := some 12) (by decide)
  refine Rc.goL mt_1100 0 (f2 := (42, [.ref 0], [.ref 0], (179, (upR (rn_600 (upR (rn_700 (upR (rn_900 R) 0 0 (some 1))) 0 1 (some 3))) 0 2 (some 12)), (in_700 (in_900 I)), L))) (b := true) rfl rfl ?_
  refine Rc.goL mt_1100 0 (f2 := (45, [.ref 0], [.ref 179, .ref 0], nw (179, (upR (rn_600 (upR (rn_700 (upR (rn_900 R) 0 0 (some 1))) 0 1 (some 3))) 0 2 (some 12)), (in_700 (in_900 I)), L))) (b := ((Nat.beq (7 : Nat) 7 && Nat.beq (K0 179) 10 && Nat.beq (Z0 179) (nf 10)) && true)) rfl (by decide +kernel) ?_
  rw [(hF.mk1 (m := 180) rfl (by decide)).1]
  have hF := (hF.mk1 (m := 180) rfl (by decide)).2
  refine Rc.goL mt_1100 0 (f2 := (46, [.ref 0], [.ref 179, .ref 179, .ref 0], (180, (upR (rn_600 (upR (rn_700 (upR (rn_900 R) 0 0 (some 1))) 0 1 (some 3))) 0 2 (some 12)), (in_700 (in_900 I)), L))) (b := true) rfl rfl ?_
  refine Rc.callI (i := 34) (mid' := 1000) (av := []) (rest := [.ref 179, .ref 0]) (v := none) (M1 := (210, (rn_1000 (upR (rn_600 (upR (rn_700 (upR (rn_900 R) 0 0 (some 1))) 0 1 (some 3))) 0 2 (some 12))), (in_1000 (in_700 (in_900 I))), L)) (a := 179) rfl rfl rfl cw_1000 rfl rfl (Nat.le_of_ble_eq_true rfl) (cn_1000 (by omega) hF) ?_
  have hF := cf_1000 hF
  refine Rc.goL mt_1100 0 (f2 := (52, [.ref 0], [], (210, (upR (rn_1000 (upR (rn_600 (upR (rn_700 (upR (rn_900 R) 0 0 (some 1))) 0 1 (some 3))) 0 2 (some 12))) 0 3 (some 179)), (in_1000 (in_700 (in_900 I))), L))) (b := true) rfl rfl ?_
  have hF := hF.uR (c := 0) (i := 3) (v := some 179) (by decide)
  refine Rc.goL mt_1100 0 (f2 := (53, [.ref 0], [.ref 0], (210, (upR (rn_1000 (upR (rn_600 (upR (rn_700 (upR (rn_900 R) 0 0 (some 1))) 0 1 (some 3))) 0 2 (some 12))) 0 3 (some 179)), (in_1000 (in_700 (in_900 I))), L))) (b := true) rfl rfl ?_
  refine Rc.goL mt_1100 0 (f2 := (56, [.ref 0], [.ref 210, .ref 0], nw (210, (upR (rn_1000 (upR (rn_600 (upR (rn_700 (upR (rn_900 R) 0 0 (some 1))) 0 1 (some 3))) 0 2 (some 12))) 0 3 (some 179)), (in_1000 (in_700 (in_900 I))), L))) (b := ((Nat.beq (7 : Nat) 7 && Nat.beq (K0 210) 2 && Nat.beq (Z0 210) (nf 2)) && true)) rfl (by decide +kernel) ?_
  rw [(hF.mk1 (m := 211) rfl (by decide)).1]
  have hF := (hF.mk1 (m := 211) rfl (by decide)).2
  refine Rc.goL mt_1100 0 (f2 := (57, [.ref 0], [.ref 210, .ref 210, .ref 0], (211, (upR (rn_1000 (upR (rn_600 (upR (rn_700 (upR (rn_900 R) 0 0 (some 1))) 0 1 (some 3))) 0 2 (some 12))) 0 3 (some 179)), (in_1000 (in_700 (in_900 I))), L))) (b := true) rfl rfl ?_
  refine Rc.callI (i := 41) (mid' := 200) (av := []) (rest := [.ref 210, .ref 0]) (v := none) (M1 := (238, (rn_200 (upR (rn_1000 (upR (rn_600 (upR (rn_700 (upR (rn_900 R) 0 0 (some 1))) 0 1 (some 3))) 0 2 (some 12))) 0 3 (some 179))), (in_200 (in_1000 (in_700 (in_900 I)))), L)) (a := 210) rfl rfl rfl cw_200 rfl rfl (Nat.le_of_ble_eq_true rfl) (cn_200 (by omega) hF) ?_
  have hF := cf_200 hF
  refine Rc.goL mt_1100 0 (f2 := (63, [.ref 0], [], (238, (upR (rn_200 (upR (rn_1000 (upR (rn_600 (upR (rn_700 (upR (rn_900 R) 0 0 (some 1))) 0 1 (some 3))) 0 2 (some 12))) 0 3 (some 179))) 0 4 (some 210)), (in_200 (in_1000 (in_700 (in_900 I)))), L))) (b := true) rfl rfl ?_
  have hF := hF.uR (c := 0) (i := 4) (v := some 210) (by decide)
  refine Rc.goL mt_1100 0 (f2 := (64, [.ref 0], [.ref 0], (238, (upR (rn_200 (upR (rn_1000 (upR (rn_600 (upR (rn_700 (upR (rn_900 R) 0 0 (some 1))) 0 1 (some 3))) 0 2 (some 12))) 0 3 (some 179))) 0 4 (some 210)), (in_200 (in_1000 (in_700 (in_900 I)))), L))) (b := true) rfl rfl ?_
  refine Rc.goL mt_1100 0 (f2 := (67, [.ref 0], [.ref 238, .ref 0], nw (238, (upR (rn_200 (upR (rn_1000 (upR (rn_600 (upR (rn_700 (upR (rn_900 R) 0 0 (some 1))) 0 1 (some 3))) 0 2 (some 12))) 0 3 (some 179))) 0 4 (some 210)), (in_200 (in_1000 (in_700 (in_900 I)))), L))) (b := ((Nat.beq (7 : Nat) 7 && Nat.beq (K0 238) 0 && Nat.beq (Z0 238) (nf 0)) && true)) rfl (by decide +kernel) ?_
  rw [(hF.mk1 (m := 239) rfl (by decide)).1]
  have hF := (hF.mk1 (m := 239) rfl (by decide)).2
  refine Rc.goL mt_1100 0 (f2 := (68, [.ref 0], [.ref 238, .ref 238, .ref 0], (239, (upR (rn_200 (upR (rn_1000 (upR (rn_600 (upR (rn_700 (upR (rn_900 R) 0 0 (some 1))) 0 1 (some 3))) 0 2 (some 12))) 0 3 (some 179))) 0 4 (some 210)), (in_200 (in_1000 (in_700 (in_900 I)))), L))) (b := true) rfl rfl ?_
  refine Rc.callI (i := 48) (mid' := 0) (av := []) (rest := [.ref 238, .ref 0]) (v := none) (M1 := (244, (rn_0 (upR (rn_200 (upR (rn_1000 (upR (rn_600 (upR (rn_700 (upR (rn_900 R) 0 0 (some 1))) 0 1 (some 3))) 0 2 (some 12))) 0 3 (some 179))) 0 4 (some 210))), (in_0 (in_200 (in_1000 (in_700 (in_900 I))))), L)) (a := 238) rfl rfl rfl cw_0 rfl rfl (Nat.le_of_ble_eq_true rfl) (cn_0 (by omega) hF) ?_
  have hF := cf_0 hF
  refine Rc.goL mt_1100 0 (f2 := (74, [.ref 0], [], (244, (upR (rn_0 (upR (rn_200 (upR (rn_1000 (upR (rn_600 (upR (rn_700 (upR (rn_900 R) 0 0 (some 1))) 0 1 (some 3))) 0 2 (some 12))) 0 3 (some 179))) 0 4 (some 210))) 0 5 (some 238)), (in_0 (in_200 (in_1000 (in_700 (in_900 I))))), L))) (b := true) rfl rfl ?_
  have hF := hF.uR (c := 0) (i := 5) (v := some 238) (by decide)
  refine Rc.goL mt_1100 0 (f2 := (75, [.ref 0], [.ref 0], (244, (upR (rn_0 (upR (rn_200 (upR (rn_1000 (upR (rn_600 (upR (rn_700 (upR (rn_900 R) 0 0 (some 1))) 0 1 (some 3))) 0 2 (some 12))) 0 3 (some 179))) 0 4 (some 210))) 0 5 (some 238)), (in_0 (in_200 (in_1000 (in_700 (in_900 I))))), L))) (b := true) rfl rfl ?_
  refine Rc.goL mt_1100 0 (f2 := (78, [.ref 0], [.ref 244, .ref 0], nw (244, (upR (rn_0 (upR (rn_200 (upR (rn_1000 (upR (rn_600 (upR (rn_700 (upR (rn_900 R) 0 0 (some 1))) 0 1 (some 3))) 0 2 (some 12))) 0 3 (some 179))) 0 4 (some 210))) 0 5 (some 238)), (in_0 (in_200 (in_1000 (in_700 (in_900 I))))), L))) (b := ((Nat.beq (7 : Nat) 7 && Nat.beq (K0 244) 5 && Nat.beq (Z0 244) (nf 5)) && true)) rfl (by decide +kernel) ?_
  rw [(hF.mk1 (m := 245) rfl (by decide)).1]
  have hF := (hF.mk1 (m := 245) rfl (by decide)).2
  refine Rc.goL mt_1100 0 (f2 := (79, [.ref 0], [.ref 244, .ref 244, .ref 0], (245, (upR (rn_0 (upR (rn_200 (upR (rn_1000 (upR (rn_600 (upR (rn_700 (upR (rn_900 R) 0 0 (some 1))) 0 1 (some 3))) 0 2 (some 12))) 0 3 (some 179))) 0 4 (some 210))) 0 5 (some 238)), (in_0 (in_200 (in_1000 (in_700 (in_900 I))))), L))) (b := true) rfl rfl ?_
  refine Rc.callI (i := 55) (mid' := 500) (av := []) (rest := [.ref 244, .ref 0]) (v := none) (M1 := (270, (rn_500 (upR (rn_0 (upR (rn_200 (upR (rn_1000 (upR (rn_600 (upR (rn_700 (upR (rn_900 R) 0 0 (some 1))) 0 1 (some 3))) 0 2 (some 12))) 0 3 (some 179))) 0 4 (some 210))) 0 5 (some 238))), (in_0 (in_200 (in_1000 (in_700 (in_900 I))))), L)) (a := 244) rfl rfl rfl cw_500 rfl rfl (Nat.le_of_ble_eq_true rfl) (cn_500 (by omega) hF) ?_
  have hF := cf_500 hF
  refine Rc.goL mt_1100 0 (f2 := (85, [.ref 0], [], (270, (upR (rn_500 (upR (rn_0 (upR (rn_200 (upR (rn_1000 (upR (rn_600 (upR (rn_700 (upR (rn_900 R) 0 0 (some 1))) 0 1 (some 3))) 0 2 (some 12))) 0 3 (some 179))) 0 4 (some 210))) 0 5 (some 238))) 0 6 (some 244)), (in_0 (in_200 (in_1000 (in_700 (in_900 I))))), L))) (b := true) rfl rfl ?_
  have hF := hF.uR (c := 0) (i := 6) (v := some 244) (by decide)
  refine Rc.goL mt_1100 0 (f2 := (86, [.ref 0], [.ref 0], (270, (upR (rn_500 (upR (rn_0 (upR (rn_200 (upR (rn_1000 (upR (rn_600 (upR (rn_700 (upR (rn_900 R) 0 0 (some 1))) 0 1 (some 3))) 0 2 (some 12))) 0 3 (some 179))) 0 4 (some 210))) 0 5 (some 238))) 0 6 (some 244)), (in_0 (in_200 (in_1000 (in_700 (in_900 I))))), L))) (b := true) rfl rfl ?_
  refine Rc.goL mt_1100 0 (f2 := (89, [.ref 0], [.ref 270, .ref 0], nw (270, (upR (rn_500 (upR (rn_0 (upR (rn_200 (upR (rn_1000 (upR (rn_600 (upR (rn_700 (upR (rn_900 R) 0 0 (some 1))) 0 1 (some 3))) 0 2 (some 12))) 0 3 (some 179))) 0 4 (some 210))) 0 5 (some 238))) 0 6 (some 244)), (in_0 (in_200 (in_1000 (in_700 (in_900 I))))), L))) (b := ((Nat.beq (7 : Nat) 7 && Nat.beq (K0 270) 4 && Nat.beq (Z0 270) (nf 4)) && true)) rfl (by decide +kernel) ?_
  rw [(hF.mk1 (m := 271) rfl (by decide)).1]
  have hF := (hF.mk1 (m := 271) rfl (by decide)).2
  refine Rc.goL mt_1100 0 (f2 := (90, [.ref 0], [.ref 270, .ref 270, .ref 0], (271, (upR (rn_500 (upR (rn_0 (upR (rn_200 (upR (rn_1000 (upR (rn_600 (upR (rn_700 (upR (rn_900 R) 0 0 (some 1))) 0 1 (some 3))) 0 2 (some 12))) 0 3 (some 179))) 0 4 (some 210))) 0 5 (some 238))) 0 6 (some 244)), (in_0 (in_200 (in_1000 (in_700 (in_900 I))))), L))) (b := true) rfl rfl ?_
  refine Rc.callI (i := 62) (mid' := 400) (av := []) (rest := [.ref 270, .ref 0]) (v := none) (M1 := (273, (rn_400 (upR (rn_500 (upR (rn_0 (upR (rn_200 (upR (rn_1000 (upR (rn_600 (upR (rn_700 (upR (rn_900 R) 0 0 (some 1))) 0 1 (some 3))) 0 2 (some 12))) 0 3 (some 179))) 0 4 (some 210))) 0 5 (some 238))) 0 6 (some 244))), (in_0 (in_200 (in_1000 (in_700 (in_900 I))))), L)) (a := 270) rfl rfl rfl cw_400 rfl rfl (Nat.le_of_ble_eq_true rfl) (cn_400 (by omega) hF) ?_
  have hF := cf_400 hF
  refine Rc.goL mt_1100 0 (f2 := (96, [.ref 0], [], (273, (upR (rn_400 (upR (rn_500 (upR (rn_0 (upR (rn_200 (upR (rn_1000 (upR (rn_600 (upR (rn_700 (upR (rn_900 R) 0 0 (some 1))) 0 1 (some 3))) 0 2 (some 12))) 0 3 (some 179))) 0 4 (some 210))) 0 5 (some 238))) 0 6 (some 244))) 0 7 (some 270)), (in_0 (in_200 (in_1000 (in_700 (in_900 I))))), L))) (b := true) rfl rfl ?_
  have hF := hF.uR (c := 0) (i := 7) (v := some 270) (by decide)
  refine Rc.goL mt_1100 0 (f2 := (97, [.ref 0], [.ref 0], (273, (upR (rn_400 (upR (rn_500 (upR (rn_0 (upR (rn_200 (upR (rn_1000 (upR (rn_600 (upR (rn_700 (upR (rn_900 R) 0 0 (some 1))) 0 1 (some 3))) 0 2 (some 12))) 0 3 (some 179))) 0 4 (some 210))) 0 5 (some 238))) 0 6 (some 244))) 0 7 (some 270)), (in_0 (in_200 (in_1000 (in_700 (in_900 I))))), L))) (b := true) rfl rfl ?_
  refine Rc.goL mt_1100 0 (f2 := (100, [.ref 0], [.ref 273, .ref 0], nw (273, (upR (rn_400 (upR (rn_500 (upR (rn_0 (upR (rn_200 (upR (rn_1000 (upR (rn_600 (upR (rn_700 (upR (rn_900 R) 0 0 (some 1))) 0 1 (some 3))) 0 2 (some 12))) 0 3 (some 179))) 0 4 (some 210))) 0 5 (some 238))) 0 6 (some 244))) 0 7 (some 270)), (in_0 (in_200 (in_1000 (in_700 (in_900 I))))), L))) (b := ((Nat.beq (7 : Nat) 7 && Nat.beq (K0 273) 1 && Nat.beq (Z0 273) (nf 1)) && true)) rfl (by decide +kernel) ?_
  rw [(hF.mk1 (m := 274) rfl (by decide)).1]
  have hF := (hF.mk1 (m := 274) rfl (by decide)).2
  refine Rc.goL mt_1100 0 (f2 := (101, [.ref 0], [.ref 273, .ref 273, .ref 0], (274, (upR (rn_400 (upR (rn_500 (upR (rn_0 (upR (rn_200 (upR (rn_1000 (upR (rn_600 (upR (rn_700 (upR (rn_900 R) 0 0 (some 1))) 0 1 (some 3))) 0 2 (some 12))) 0 3 (some 179))) 0 4 (some 210))) 0 5 (some 238))) 0 6 (some 244))) 0 7 (some 270)), (in_0 (in_200 (in_1000 (in_700 (in_900 I))))), L))) (b := true) rfl rfl ?_
  refine Rc.callI (i := 69) (mid' := 100) (av := []) (rest := [.ref 273, .ref 0]) (v := none) (M1 := (278, (rn_100 (upR (rn_400 (upR (rn_500 (upR (rn_0 (upR (rn_200 (upR (rn_1000 (upR (rn_600 (upR (rn_700 (upR (rn_900 R) 0 0 (some 1))) 0 1 (some 3))) 0 2 (some 12))) 0 3 (some 179))) 0 4 (some 210))) 0 5 (some 238))) 0 6 (some 244))) 0 7 (some 270))), (in_0 (in_200 (in_1000 (in_700 (in_900 I))))), L)) (a := 273) rfl rfl rfl cw_100 rfl rfl (Nat.le_of_ble_eq_true rfl) (cn_100 (by omega) hF) ?_
  have hF := cf_100 hF
  refine Rc.goL mt_1100 0 (f2 := (107, [.ref 0], [], (278, (upR (rn_100 (upR (rn_400 (upR (rn_500 (upR (rn_0 (upR (rn_200 (upR (rn_1000 (upR (rn_600 (upR (rn_700 (upR (rn_900 R) 0 0 (some 1))) 0 1 (some 3))) 0 2 (some 12))) 0 3 (some 179))) 0 4 (some 210))) 0 5 (some 238))) 0 6 (some 244))) 0 7 (some 270))) 0 8 (some 273)), (in_0 (in_200 (in_1000 (in_700 (in_900 I))))), L))) (b := true) rfl rfl ?_
  have hF := hF.uR (c := 0) (i := 8) (v := some 273) (by decide)
  refine Rc.goL mt_1100 0 (f2 := (108, [.ref 0], [.ref 0], (278, (upR (rn_100 (upR (rn_400 (upR (rn_500 (upR (rn_0 (upR (rn_200 (upR (rn_1000 (upR (rn_600 (upR (rn_700 (upR (rn_900 R) 0 0 (some 1))) 0 1 (some 3))) 0 2 (some 12))) 0 3 (some 179))) 0 4 (some 210))) 0 5 (some 238))) 0 6 (some 244))) 0 7 (some 270))) 0 8 (some 273)), (in_0 (in_200 (in_1000 (in_700 (in_900 I))))), L))) (b := true) rfl rfl ?_
  refine Rc.goL mt_1100 0 (f2 := (111, [.ref 0], [.ref 278, .ref 0], nw (278, (upR (rn_100 (upR (rn_400 (upR (rn_500 (upR (rn_0 (upR (rn_200 (upR (rn_1000 (upR (rn_600 (upR (rn_700 (upR (rn_900 R) 0 0 (some 1))) 0 1 (some 3))) 0 2 (some 12))) 0 3 (some 179))) 0 4 (some 210))) 0 5 (some 238))) 0 6 (some 244))) 0 7 (some 270))) 0 8 (some 273)), (in_0 (in_200 (in_1000 (in_700 (in_900 I))))), L))) (b := ((Nat.beq (7 : Nat) 7 && Nat.beq (K0 278) 3 && Nat.beq (Z0 278) (nf 3)) && true)) rfl (by decide +kernel) ?_
  rw [(hF.mk1 (m := 279) rfl (by decide)).1]
  have hF := (hF.mk1 (m := 279) rfl (by decide)).2
  refine Rc.goL mt_1100 0 (f2 := (112, [.ref 0], [.ref 278, .ref 278, .ref 0], (279, (upR (rn_100 (upR (rn_400 (upR (rn_500 (upR (rn_0 (upR (rn_200 (upR (rn_1000 (upR (rn_600 (upR (rn_700 (upR (rn_900 R) 0 0 (some 1))) 0 1 (some 3))) 0 2 (some 12))) 0 3 (some 179))) 0 4 (some 210))) 0 5 (some 238))) 0 6 (some 244))) 0 7 (some 270))) 0 8 (some 273)), (in_0 (in_200 (in_1000 (in_700 (in_900 I))))), L))) (b := true) rfl rfl ?_
  refine Rc.callI (i := 76) (mid' := 300) (av := []) (rest := [.ref 278, .ref 0]) (v := none) (M1 := (280, (rn_300 (upR (rn_100 (upR (rn_400 (upR (rn_500 (upR (rn_0 (upR (rn_200 (upR (rn_1000 (upR (rn_600 (upR (rn_700 (upR (rn_900 R) 0 0 (some 1))) 0 1 (some 3))) 0 2 (some 12))) 0 3 (some 179))) 0 4 (some 210))) 0 5 (some 238))) 0 6 (some 244))) 0 7 (some 270))) 0 8 (some 273))), (in_0 (in_200 (in_1000 (in_700 (in_900 I))))), L)) (a := 278) rfl rfl rfl cw_300 rfl rfl (Nat.le_of_ble_eq_true rfl) (cn_300 (by omega) hF) ?_
  have hF := cf_300 hF
  refine Rc.goL mt_1100 0 (f2 := (118, [.ref 0], [], (280, (upR (rn_300 (upR (rn_100 (upR (rn_400 (upR (rn_500 (upR (rn_0 (upR (rn_200 (upR (rn_1000 (upR (rn_600 (upR (rn_700 (upR (rn_900 R) 0 0 (some 1))) 0 1 (some 3))) 0 2 (some 12))) 0 3 (some 179))) 0 4 (some 210))) 0 5 (some 238))) 0 6 (some 244))) 0 7 (some 270))) 0 8 (some 273))) 0 9 (some 278)), (in_0 (in_200 (in_1000 (in_700 (in_900 I))))), L))) (b := true) rfl rfl ?_
  have hF := hF.uR (c := 0) (i := 9) (v := some 278) (by decide)
  refine Rc.goL mt_1100 2 (f2 := (123, [.ref 0], [], (280, (upR (rn_300 (upR (rn_100 (upR (rn_400 (upR (rn_500 (upR (rn_0 (upR (rn_200 (upR (rn_1000 (upR (rn_600 (upR (rn_700 (upR (rn_900 R) 0 0 (some 1))) 0 1 (some 3))) 0 2 (some 12))) 0 3 (some 179))) 0 4 (some 210))) 0 5 (some 238))) 0 6 (some 244))) 0 7 (some 270))) 0 8 (some 273))) 0 9 (some 278)), (upI (in_0 (in_200 (in_1000 (in_700 (in_900 I))))) 0 10 (0 : Int32)), L))) (b := true) rfl rfl ?_
  have hF := hF.uI (c := 0) (i := 10) (v := (0 : Int32)) (by decide)
  refine Rc.goL mt_1100 2 (f2 := (128, [.ref 0], [], (280, (upR (rn_300 (upR (rn_100 (upR (rn_400 (upR (rn_500 (upR (rn_0 (upR (rn_200 (upR (rn_1000 (upR (rn_600 (upR (rn_700 (upR (rn_900 R) 0 0 (some 1))) 0 1 (some 3))) 0 2 (some 12))) 0 3 (some 179))) 0 4 (some 210))) 0 5 (some 238))) 0 6 (some 244))) 0 7 (some 270))) 0 8 (some 273))) 0 9 (some 278)), (upI (upI (in_0 (in_200 (in_1000 (in_700 (in_900 I))))) 0 10 (0 : Int32)) 0 11 (5 : Int32)), L))) (b := true) rfl rfl ?_
  have hF := hF.uI (c := 0) (i := 11) (v := (5 : Int32)) (by decide)
  exact Rc.ret (v := none) rfl rfl
theorem mt_1200 : MT 1200 K_1200 LN_12 := ⟨rfl, rfl, by decide +kernel⟩
theorem okm_1200 : OKm 1200 := ⟨⟨vE_1200, okL_12, by decide +kernel⟩, by decide +kernel, by decide +kernel, by decide +kernel⟩
set_option maxRecDepth 20000 in
theorem lw_1200_479_l {d : Nat} {R : MR} {I : MI} {L : ML} {res : Option Value × GM} (h0 : R 280 10 = some 287) (hk : Rc d 1200 (499, [.ref 280, .int (3120 : Int32)], [], (336, R, fiI I 287 3120 (-1), L)) res) : ∀ (k j : Nat), j + k = 3120 → Rc d 1200 (479, [.ref 280, .int (Int32.ofNat j)], [], (336, R, fiI I 287 j (-1), L)) res := by
  intro k
  induction k with
  | zero =>
    intro j hj
    have hj : j = 3120 := by omega
    subst hj
    refine Rc.goL mt_1200 2 (f2 := (499, [.ref 280, .int (3120 : Int32)], [], (336, R, fiI I 287 3120 (-1), L))) (b := true) rfl rfl ?_
    exact hk
  | succ k ih =>
    intro j hj
    refine Rc.goL mt_1200 2 (f2 := (if Int32.ofNat j < (3120 : Int32) then 486 else 499, [.ref 280, .int (Int32.ofNat j)], [], (336, R, fiI I 287 j (-1), L))) (b := true) rfl rfl ?_
    rw [if_pos (i_lt (by rw [show Int32.toInt (3120 : Int32) = 3120 from by decide]; omega))]
    refine Rc.goL mt_1200 1 (f2 := (490, [.ref 280, .int (Int32.ofNat j)], [rv (R 280 10)], (336, R, fiI I 287 j (-1), L))) (b := true) rfl rfl ?_
    rw [h0]
    refine Rc.goL mt_1200 2 (f2 := (493, [.ref 280, .int (Int32.ofNat j)], [], (336, R, upI (fiI I 287 j (-1)) 287 (Int32.toNatClampNeg (Int32.ofNat j)) (-1), L))) (b := (ib 3120 (Int32.ofNat j) && true)) rfl (and_i (i_ib (by omega) (by decide)) rfl) ?_
    rw [i_clamp (by omega), fiI_s]
    refine Rc.goL mt_1200 1 (f2 := (479, [.ref 280, .int ((Int32.ofNat j) + 1)], [], (336, R, fiI I 287 (j + 1) (-1), L))) (b := true) rfl rfl ?_
    rw [i_succ]
    exact ih (j + 1) (by omega)
theorem lw_1200_479 {d : Nat} {R : MR} {I : MI} {L : ML} {res : Option Value × GM} (h0 : R 280 10 = some 287) (hk : Rc d 1200 (499, [.ref 280, .int (3120 : Int32)], [], (336, R, fiI I 287 3120 (-1), L)) res) : Rc d 1200 (479, [.ref 280, .int (0 : Int32)], [], (336, R, I, L)) res := by
  have h := lw_1200_479_l (d := d) (R := R) (I := I) (L := L) (res := res) h0 hk 3120 0 (by omega)
  rwa [fiI_0] at h
set_option maxRecDepth 20000 in
theorem lw_1200_501_l {d : Nat} {R : MR} {I : MI} {L : ML} {res : Option Value × GM} (h0 : R 280 11 = some 288) (hk : Rc d 1200 (521, [.ref 280, .int (8320 : Int32)], [], (336, R, fiI I 288 8320 (-1), L)) res) : ∀ (k j : Nat), j + k = 8320 → Rc d 1200 (501, [.ref 280, .int (Int32.ofNat j)], [], (336, R, fiI I 288 j (-1), L)) res := by
  intro k
  induction k with
  | zero =>
    intro j hj
    have hj : j = 8320 := by omega
    subst hj
    refine Rc.goL mt_1200 2 (f2 := (521, [.ref 280, .int (8320 : Int32)], [], (336, R, fiI I 288 8320 (-1), L))) (b := true) rfl rfl ?_
    exact hk
  | succ k ih =>
    intro j hj
    refine Rc.goL mt_1200 2 (f2 := (if Int32.ofNat j < (8320 : Int32) then 508 else 521, [.ref 280, .int (Int32.ofNat j)], [], (336, R, fiI I 288 j (-1), L))) (b := true) rfl rfl ?_
    rw [if_pos (i_lt (by rw [show Int32.toInt (8320 : Int32) = 8320 from by decide]; omega))]
    refine Rc.goL mt_1200 1 (f2 := (512, [.ref 280, .int (Int32.ofNat j)], [rv (R 280 11)], (336, R, fiI I 288 j (-1), L))) (b := true) rfl rfl ?_
    rw [h0]
    refine Rc.goL mt_1200 2 (f2 := (515, [.ref 280, .int (Int32.ofNat j)], [], (336, R, upI (fiI I 288 j (-1)) 288 (Int32.toNatClampNeg (Int32.ofNat j)) (-1), L))) (b := (ib 8320 (Int32.ofNat j) && true)) rfl (and_i (i_ib (by omega) (by decide)) rfl) ?_
    rw [i_clamp (by omega), fiI_s]
    refine Rc.goL mt_1200 1 (f2 := (501, [.ref 280, .int ((Int32.ofNat j) + 1)], [], (336, R, fiI I 288 (j + 1) (-1), L))) (b := true) rfl rfl ?_
    rw [i_succ]
    exact ih (j + 1) (by omega)
theorem lw_1200_501 {d : Nat} {R : MR} {I : MI} {L : ML} {res : Option Value × GM} (h0 : R 280 11 = some 288) (hk : Rc d 1200 (521, [.ref 280, .int (8320 : Int32)], [], (336, R, fiI I 288 8320 (-1), L)) res) : Rc d 1200 (501, [.ref 280, .int (0 : Int32)], [], (336, R, I, L)) res := by
  have h := lw_1200_501_l (d := d) (R := R) (I := I) (L := L) (res := res) h0 hk 8320 0 (by omega)
  rwa [fiI_0] at h
def rn_1200 (R : MR) : MR := (upR (upR (upR (upR (upR (upR (upR (upR (upR (upR (upR (upR (upR (upR (upR (upR (upR (upR (upR (upR (upR (upR (upR (upR (upR (upR (upR (upR (upR (upR (upR (upR (upR (upR (upR (upR (upR (upR (upR (upR (upR (upR (upR (upR (upR (upR (upR (upR (upR (upR (upR (upR (upR (upR (upR R 280 4 (some 281)) 280 5 (some 282)) 280 6 (some 283)) 280 7 (some 284)) 280 8 (some 285)) 280 9 (some 286)) 280 10 (some 287)) 280 11 (some 288)) 280 12 (some 289)) 280 21 (some 290)) 280 22 (some 291)) 280 23 (some 292)) 280 24 (some 293)) 280 25 (some 294)) 280 26 (some 295)) 280 29 (some 296)) 280 30 (some 297)) 280 31 (some 298)) 280 32 (some 299)) 280 33 (some 300)) 280 34 (some 301)) 280 35 (some 302)) 280 36 (some 303)) 280 37 (some 304)) 280 38 (some 305)) 280 39 (some 306)) 280 40 (some 307)) 280 41 (some 308)) 280 42 (some 309)) 280 44 (some 310)) 280 45 (some 311)) 280 46 (some 312)) 280 47 (some 313)) 280 48 (some 314)) 280 49 (some 315)) 280 50 (some 316)) 280 51 (some 317)) 280 52 (some 318)) 280 53 (some 319)) 280 62 (some 320)) 280 63 (some 321)) 280 64 (some 322)) 280 65 (some 323)) 280 66 (some 324)) 280 67 (some 325)) 280 76 (some 326)) 280 77 (some 327)) 280 78 (some 328)) 280 79 (some 329)) 280 81 (some 330)) 280 82 (some 331)) 280 84 (some 332)) 280 85 (some 333)) 280 86 (some 334)) 280 88 (some 335))
def in_1200 (I : MI) : MI := (fiI (fiI (upI I 280 59 (5 : Int32)) 287 3120 (-1)) 288 8320 (-1))
theorem cf_1200 {R : MR} {I : MI} {L : ML} (hF : FM 281 R I L) : FM 336 (rn_1200 R) (in_1200 I) L := by
  have hF := (hF.mk1 (m := 282) rfl (by decide)).2
  have hF := hF.uR (c := 280) (i := 4) (v := some 281) (by decide)
  have hF := (hF.mk1 (m := 283) rfl (by decide)).2
  have hF := hF.uR (c := 280) (i := 5) (v := some 282) (by decide)
  have hF := (hF.mk1 (m := 284) rfl (by decide)).2
  have hF := hF.uR (c := 280) (i := 6) (v := some 283) (by decide)
  have hF := (hF.mk1 (m := 285) rfl (by decide)).2
  have hF := hF.uR (c := 280) (i := 7) (v := some 284) (by decide)
  have hF := (hF.mk1 (m := 286) rfl (by decide)).2
  have hF := hF.uR (c := 280) (i := 8) (v := some 285) (by decide)
  have hF := (hF.mk1 (m := 287) rfl (by decide)).2
  have hF := hF.uR (c := 280) (i := 9) (v := some 286) (by decide)
  have hF := (hF.mk1 (m := 288) rfl (by decide)).2
  have hF := hF.uR (c := 280) (i := 10) (v := some 287) (by decide)
  have hF := (hF.mk1 (m := 289) rfl (by decide)).2
  have hF := hF.uR (c := 280) (i := 11) (v := some 288) (by decide)
  have hF := (hF.mk1 (m := 290) rfl (by decide)).2
  have hF := hF.uR (c := 280) (i := 12) (v := some 289) (by decide)
  have hF := (hF.mk1 (m := 291) rfl (by decide)).2
  have hF := hF.uR (c := 280) (i := 21) (v := some 290) (by decide)
  have hF := (hF.mk1 (m := 292) rfl (by decide)).2
  have hF := hF.uR (c := 280) (i := 22) (v := some 291) (by decide)
  have hF := (hF.mk1 (m := 293) rfl (by decide)).2
  have hF := hF.uR (c := 280) (i := 23) (v := some 292) (by decide)
  have hF := (hF.mk1 (m := 294) rfl (by decide)).2
  have hF := hF.uR (c := 280) (i := 24) (v := some 293) (by decide)
  have hF := (hF.mk1 (m := 295) rfl (by decide)).2
  have hF := hF.uR (c := 280) (i := 25) (v := some 294) (by decide)
  have hF := (hF.mk1 (m := 296) rfl (by decide)).2
  have hF := hF.uR (c := 280) (i := 26) (v := some 295) (by decide)
  have hF := (hF.mk1 (m := 297) rfl (by decide)).2
  have hF := hF.uR (c := 280) (i := 29) (v := some 296) (by decide)
  have hF := (hF.mk1 (m := 298) rfl (by decide)).2
  have hF := hF.uR (c := 280) (i := 30) (v := some 297) (by decide)
  have hF := (hF.mk1 (m := 299) rfl (by decide)).2
  have hF := hF.uR (c := 280) (i := 31) (v := some 298) (by decide)
  have hF := (hF.mk1 (m := 300) rfl (by decide)).2
  have hF := hF.uR (c := 280) (i := 32) (v := some 299) (by decide)
  have hF := (hF.mk1 (m := 301) rfl (by decide)).2
  have hF := hF.uR (c := 280) (i := 33) (v := some 300) (by decide)
  have hF := (hF.mk1 (m := 302) rfl (by decide)).2
  have hF := hF.uR (c := 280) (i := 34) (v := some 301) (by decide)
  have hF := (hF.mk1 (m := 303) rfl (by decide)).2
  have hF := hF.uR (c := 280) (i := 35) (v := some 302) (by decide)
  have hF := (hF.mk1 (m := 304) rfl (by decide)).2
  have hF := hF.uR (c := 280) (i := 36) (v := some 303) (by decide)
  have hF := (hF.mk1 (m := 305) rfl (by decide)).2
  have hF := hF.uR (c := 280) (i := 37) (v := some 304) (by decide)
  have hF := (hF.mk1 (m := 306) rfl (by decide)).2
  have hF := hF.uR (c := 280) (i := 38) (v := some 305) (by decide)
  have hF := (hF.mk1 (m := 307) rfl (by decide)).2
  have hF := hF.uR (c := 280) (i := 39) (v := some 306) (by decide)
  have hF := (hF.mk1 (m := 308) rfl (by decide)).2
  have hF := hF.uR (c := 280) (i := 40) (v := some 307) (by decide)
  have hF := (hF.mk1 (m := 309) rfl (by decide)).2
  have hF := hF.uR (c := 280) (i := 41) (v := some 308) (by decide)
  have hF := (hF.mk1 (m := 310) rfl (by decide)).2
  have hF := hF.uR (c := 280) (i := 42) (v := some 309) (by decide)
  have hF := (hF.mk1 (m := 311) rfl (by decide)).2
  have hF := hF.uR (c := 280) (i := 44) (v := some 310) (by decide)
  have hF := (hF.mk1 (m := 312) rfl (by decide)).2
  have hF := hF.uR (c := 280) (i := 45) (v := some 311) (by decide)
  have hF := (hF.mk1 (m := 313) rfl (by decide)).2
  have hF := hF.uR (c := 280) (i := 46) (v := some 312) (by decide)
  have hF := (hF.mk1 (m := 314) rfl (by decide)).2
  have hF := hF.uR (c := 280) (i := 47) (v := some 313) (by decide)
  have hF := (hF.mk1 (m := 315) rfl (by decide)).2
  have hF := hF.uR (c := 280) (i := 48) (v := some 314) (by decide)
  have hF := (hF.mk1 (m := 316) rfl (by decide)).2
  have hF := hF.uR (c := 280) (i := 49) (v := some 315) (by decide)
  have hF := (hF.mk1 (m := 317) rfl (by decide)).2
  have hF := hF.uR (c := 280) (i := 50) (v := some 316) (by decide)
  have hF := (hF.mk1 (m := 318) rfl (by decide)).2
  have hF := hF.uR (c := 280) (i := 51) (v := some 317) (by decide)
  have hF := (hF.mk1 (m := 319) rfl (by decide)).2
  have hF := hF.uR (c := 280) (i := 52) (v := some 318) (by decide)
  have hF := (hF.mk1 (m := 320) rfl (by decide)).2
  have hF := hF.uR (c := 280) (i := 53) (v := some 319) (by decide)
  have hF := hF.uI (c := 280) (i := 59) (v := (5 : Int32)) (by decide)
  have hF := (hF.mk1 (m := 321) rfl (by decide)).2
  have hF := hF.uR (c := 280) (i := 62) (v := some 320) (by decide)
  have hF := (hF.mk1 (m := 322) rfl (by decide)).2
  have hF := hF.uR (c := 280) (i := 63) (v := some 321) (by decide)
  have hF := (hF.mk1 (m := 323) rfl (by decide)).2
  have hF := hF.uR (c := 280) (i := 64) (v := some 322) (by decide)
  have hF := (hF.mk1 (m := 324) rfl (by decide)).2
  have hF := hF.uR (c := 280) (i := 65) (v := some 323) (by decide)
  have hF := (hF.mk1 (m := 325) rfl (by decide)).2
  have hF := hF.uR (c := 280) (i := 66) (v := some 324) (by decide)
  have hF := (hF.mk1 (m := 326) rfl (by decide)).2
  have hF := hF.uR (c := 280) (i := 67) (v := some 325) (by decide)
  have hF := (hF.mk1 (m := 327) rfl (by decide)).2
  have hF := hF.uR (c := 280) (i := 76) (v := some 326) (by decide)
  have hF := (hF.mk1 (m := 328) rfl (by decide)).2
  have hF := hF.uR (c := 280) (i := 77) (v := some 327) (by decide)
  have hF := (hF.mk1 (m := 329) rfl (by decide)).2
  have hF := hF.uR (c := 280) (i := 78) (v := some 328) (by decide)
  have hF := (hF.mk1 (m := 330) rfl (by decide)).2
  have hF := hF.uR (c := 280) (i := 79) (v := some 329) (by decide)
  have hF := (hF.mk1 (m := 331) rfl (by decide)).2
  have hF := hF.uR (c := 280) (i := 81) (v := some 330) (by decide)
  have hF := (hF.mk1 (m := 332) rfl (by decide)).2
  have hF := hF.uR (c := 280) (i := 82) (v := some 331) (by decide)
  have hF := (hF.mk1 (m := 333) rfl (by decide)).2
  have hF := hF.uR (c := 280) (i := 84) (v := some 332) (by decide)
  have hF := (hF.mk1 (m := 334) rfl (by decide)).2
  have hF := hF.uR (c := 280) (i := 85) (v := some 333) (by decide)
  have hF := (hF.mk1 (m := 335) rfl (by decide)).2
  have hF := hF.uR (c := 280) (i := 86) (v := some 334) (by decide)
  have hF := (hF.mk1 (m := 336) rfl (by decide)).2
  have hF := hF.uR (c := 280) (i := 88) (v := some 335) (by decide)
  have hF := hF.fi (c := 287) (N := 3120) (v := -1) (by decide)
  have hF := hF.fi (c := 288) (N := 8320) (v := -1) (by decide)
  exact hF
set_option maxRecDepth 20000 in
theorem cn_1200 {d : Nat} (hd : 1 ≤ d) {R : MR} {I : MI} {L : ML} (hF : FM 281 R I L) : Ex d 1200 [.ref 280] (281, R, I, L) (none, (336, rn_1200 R, (in_1200 I), L)) := by
  obtain ⟨d, rfl⟩ : ∃ d0, d = d0 + 1 := ⟨d - 1, by omega⟩
  refine Ex.of okm_1200 (by omega) (Nat.le_of_ble_eq_true rfl) ?_
  show Rc (d + 1) 1200 (0, [.ref 280, UU], [], (281, R, I, L)) _
  refine Rc.goL mt_1200 3 (f2 := (7, [.ref 280, UU], [.int (6 : Int32), .ref 280], (281, R, I, L))) (b := true) rfl rfl ?_
  refine Rc.goL mt_1200 0 (f2 := (9, [.ref 280, UU], [.ref 281, .ref 280], nw (281, R, I, L))) (b := ((Nat.beq (K0 281) (kAT .int) && decide (¬ (6 : Int32) < 0) && Nat.beq (Int32.toNatClampNeg (6 : Int32)) (Z0 281)) && true)) rfl (by decide +kernel) ?_
  rw [(hF.mk1 (m := 282) rfl (by decide)).1]
  have hF := (hF.mk1 (m := 282) rfl (by decide)).2
  refine Rc.goL mt_1200 0 (f2 := (12, [.ref 280, UU], [], (282, (upR R 280 4 (some 281)), I, L))) (b := true) rfl rfl ?_
  have hF := hF.uR (c := 280) (i := 4) (v := some 281) (by decide)
  refine Rc.goL mt_1200 1 (f2 := (15, [.ref 280, UU], [.int (12 : Int32), .ref 280], (282, (upR R 280 4 (some 281)), I, L))) (b := true) rfl rfl ?_
  refine Rc.goL mt_1200 0 (f2 := (17, [.ref 280, UU], [.ref 282, .ref 280], nw (282, (upR R 280 4 (some 281)), I, L))) (b := ((Nat.beq (K0 282) (kAT .int) && decide (¬ (12 : Int32) < 0) && Nat.beq (Int32.toNatClampNeg (12 : Int32)) (Z0 282)) && true)) rfl (by decide +kernel) ?_
  rw [(hF.mk1 (m := 283) rfl (by decide)).1]
  have hF := (hF.mk1 (m := 283) rfl (by decide)).2
  refine Rc.goL mt_1200 0 (f2 := (20, [.ref 280, UU], [], (283, (upR (upR R 280 4 (some 281)) 280 5 (some 282)), I, L))) (b := true) rfl rfl ?_
  have hF := hF.uR (c := 280) (i := 5) (v := some 282) (by decide)
  refine Rc.goL mt_1200 1 (f2 := (23, [.ref 280, UU], [.int (16 : Int32), .ref 280], (283, (upR (upR R 280 4 (some 281)) 280 5 (some 282)), I, L))) (b := true) rfl rfl ?_
  refine Rc.goL mt_1200 0 (f2 := (25, [.ref 280, UU], [.ref 283, .ref 280], nw (283, (upR (upR R 280 4 (some 281)) 280 5 (some 282)), I, L))) (b := ((Nat.beq (K0 283) (kAT .int) && decide (¬ (16 : Int32) < 0) && Nat.beq (Int32.toNatClampNeg (16 : Int32)) (Z0 283)) && true)) rfl (by decide +kernel) ?_
  rw [(hF.mk1 (m := 284) rfl (by decide)).1]
  have hF := (hF.mk1 (m := 284) rfl (by decide)).2
  refine Rc.goL mt_1200 0 (f2 := (28, [.ref 280, UU], [], (284, (upR (upR (upR R 280 4 (some 281)) 280 5 (some 282)) 280 6 (some 283)), I, L))) (b := true) rfl rfl ?_
  have hF := hF.uR (c := 280) (i := 6) (v := some 283) (by decide)
  refine Rc.goL mt_1200 1 (f2 := (31, [.ref 280, UU], [.int (16 : Int32), .ref 280], (284, (upR (upR (upR R 280 4 (some 281)) 280 5 (some 282)) 280 6 (some 283)), I, L))) (b := true) rfl rfl ?_
  refine Rc.goL mt_1200 0 (f2 := (33, [.ref 280, UU], [.ref 284, .ref 280], nw (284, (upR (upR (upR R 280 4 (some 281)) 280 5 (some 282)) 280 6 (some 283)), I, L))) (b := ((Nat.beq (K0 284) (kAT .int) && decide (¬ (16 : Int32) < 0) && Nat.beq (Int32.toNatClampNeg (16 : Int32)) (Z0 284)) && true)) rfl (by decide +kernel) ?_
  rw [(hF.mk1 (m := 285) rfl (by decide)).1]
  have hF := (hF.mk1 (m := 285) rfl (by decide)).2
  refine Rc.goL mt_1200 0 (f2 := (36, [.ref 280, UU], [], (285, (upR (upR (upR (upR R 280 4 (some 281)) 280 5 (some 282)) 280 6 (some 283)) 280 7 (some 284)), I, L))) (b := true) rfl rfl ?_
  have hF := hF.uR (c := 280) (i := 7) (v := some 284) (by decide)
  refine Rc.goL mt_1200 1 (f2 := (39, [.ref 280, UU], [.int (16 : Int32), .ref 280], (285, (upR (upR (upR (upR R 280 4 (some 281)) 280 5 (some 282)) 280 6 (some 283)) 280 7 (some 284)), I, L))) (b := true) rfl rfl ?_
  refine Rc.goL mt_1200 0 (f2 := (41, [.ref 280, UU], [.ref 285, .ref 280], nw (285, (upR (upR (upR (upR R 280 4 (some 281)) 280 5 (some 282)) 280 6 (some 283)) 280 7 (some 284)), I, L))) (b := ((Nat.beq (K0 285) (kAT .int) && decide (¬ (16 : Int32) < 0) && Nat.beq (Int32.toNatClampNeg (16 : Int32)) (Z0 285)) && true)) rfl (by decide +kernel) ?_
  rw [(hF.mk1 (m := 286) rfl (by decide)).1]
  have hF := (hF.mk1 (m := 286) rfl (by decide)).2
  refine Rc.goL mt_1200 0 (f2 := (44, [.ref 280, UU], [], (286, (upR (upR (upR (upR (upR R 280 4 (some 281)) 280 5 (some 282)) 280 6 (some 283)) 280 7 (some 284)) 280 8 (some 285)), I, L))) (b := true) rfl rfl ?_
  have hF := hF.uR (c := 280) (i := 8) (v := some 285) (by decide)
  refine Rc.goL mt_1200 1 (f2 := (47, [.ref 280, UU], [.int (6 : Int32), .ref 280], (286, (upR (upR (upR (upR (upR R 280 4 (some 281)) 280 5 (some 282)) 280 6 (some 283)) 280 7 (some 284)) 280 8 (some 285)), I, L))) (b := true) rfl rfl ?_
  refine Rc.goL mt_1200 0 (f2 := (49, [.ref 280, UU], [.ref 286, .ref 280], nw (286, (upR (upR (upR (upR (upR R 280 4 (some 281)) 280 5 (some 282)) 280 6 (some 283)) 280 7 (some 284)) 280 8 (some 285)), I, L))) (b := ((Nat.beq (K0 286) (kAT .int) && decide (¬ (6 : Int32) < 0) && Nat.beq (Int32.toNatClampNeg (6 : Int32)) (Z0 286)) && true)) rfl (by decide +kernel) ?_
  rw [(hF.mk1 (m := 287) rfl (by decide)).1]
  have hF := (hF.mk1 (m := 287) rfl (by decide)).2
  refine Rc.goL mt_1200 0 (f2 := (52, [.ref 280, UU], [], (287, (upR (upR (upR (upR (upR (upR R 280 4 (some 281)) 280 5 (some 282)) 280 6 (some 283)) 280 7 (some 284)) 280 8 (some 285)) 280 9 (some 286)), I, L))) (b := true) rfl rfl ?_
  have hF := hF.uR (c := 280) (i := 9) (v := some 286) (by decide)
  refine Rc.goL mt_1200 1 (f2 := (56, [.ref 280, UU], [.int (3120 : Int32), .ref 280], (287, (upR (upR (upR (upR (upR (upR R 280 4 (some 281)) 280 5 (some 282)) 280 6 (some 283)) 280 7 (some 284)) 280 8 (some 285)) 280 9 (some 286)), I, L))) (b := true) rfl rfl ?_
  refine Rc.goL mt_1200 0 (f2 := (58, [.ref 280, UU], [.ref 287, .ref 280], nw (287, (upR (upR (upR (upR (upR (upR R 280 4 (some 281)) 280 5 (some 282)) 280 6 (some 283)) 280 7 (some 284)) 280 8 (some 285)) 280 9 (some 286)), I, L))) (b := ((Nat.beq (K0 287) (kAT .int) && decide (¬ (3120 : Int32) < 0) && Nat.beq (Int32.toNatClampNeg (3120 : Int32)) (Z0 287)) && true)) rfl (by decide +kernel) ?_
  rw [(hF.mk1 (m := 288) rfl (by decide)).1]
  have hF := (hF.mk1 (m := 288) rfl (by decide)).2
  refine Rc.goL mt_1200 0 (f2 := (61, [.ref 280, UU], [], (288, (upR (upR (upR (upR (upR (upR (upR R 280 4 (some 281)) 280 5 (some 282)) 280 6 (some 283)) 280 7 (some 284)) 280 8 (some 285)) 280 9 (some 286)) 280 10 (some 287)), I, L))) (b := true) rfl rfl ?_
  have hF := hF.uR (c := 280) (i := 10) (v := some 287) (by decide)
  refine Rc.goL mt_1200 1 (f2 := (65, [.ref 280, UU], [.int (8320 : Int32), .ref 280], (288, (upR (upR (upR (upR (upR (upR (upR R 280 4 (some 281)) 280 5 (some 282)) 280 6 (some 283)) 280 7 (some 284)) 280 8 (some 285)) 280 9 (some 286)) 280 10 (some 287)), I, L))) (b := true) rfl rfl ?_
  refine Rc.goL mt_1200 0 (f2 := (67, [.ref 280, UU], [.ref 288, .ref 280], nw (288, (upR (upR (upR (upR (upR (upR (upR R 280 4 (some 281)) 280 5 (some 282)) 280 6 (some 283)) 280 7 (some 284)) 280 8 (some 285)) 280 9 (some 286)) 280 10 (some 287)), I, L))) (b := ((Nat.beq (K0 288) (kAT .int) && decide (¬ (8320 : Int32) < 0) && Nat.beq (Int32.toNatClampNeg (8320 : Int32)) (Z0 288)) && true)) rfl (by decide +kernel) ?_
  rw [(hF.mk1 (m := 289) rfl (by decide)).1]
  have hF := (hF.mk1 (m := 289) rfl (by decide)).2
  refine Rc.goL mt_1200 0 (f2 := (70, [.ref 280, UU], [], (289, (upR (upR (upR (upR (upR (upR (upR (upR R 280 4 (some 281)) 280 5 (some 282)) 280 6 (some 283)) 280 7 (some 284)) 280 8 (some 285)) 280 9 (some 286)) 280 10 (some 287)) 280 11 (some 288)), I, L))) (b := true) rfl rfl ?_
  have hF := hF.uR (c := 280) (i := 11) (v := some 288) (by decide)
  refine Rc.goL mt_1200 1 (f2 := (74, [.ref 280, UU], [.int (200 : Int32), .ref 280], (289, (upR (upR (upR (upR (upR (upR (upR (upR R 280 4 (some 281)) 280 5 (some 282)) 280 6 (some 283)) 280 7 (some 284)) 280 8 (some 285)) 280 9 (some 286)) 280 10 (some 287)) 280 11 (some 288)), I, L))) (b := true) rfl rfl ?_
  refine Rc.goL mt_1200 0 (f2 := (76, [.ref 280, UU], [.ref 289, .ref 280], nw (289, (upR (upR (upR (upR (upR (upR (upR (upR R 280 4 (some 281)) 280 5 (some 282)) 280 6 (some 283)) 280 7 (some 284)) 280 8 (some 285)) 280 9 (some 286)) 280 10 (some 287)) 280 11 (some 288)), I, L))) (b := ((Nat.beq (K0 289) (kAT .byte) && decide (¬ (200 : Int32) < 0) && Nat.beq (Int32.toNatClampNeg (200 : Int32)) (Z0 289)) && true)) rfl (by decide +kernel) ?_
  rw [(hF.mk1 (m := 290) rfl (by decide)).1]
  have hF := (hF.mk1 (m := 290) rfl (by decide)).2
  refine Rc.goL mt_1200 0 (f2 := (79, [.ref 280, UU], [], (290, (upR (upR (upR (upR (upR (upR (upR (upR (upR R 280 4 (some 281)) 280 5 (some 282)) 280 6 (some 283)) 280 7 (some 284)) 280 8 (some 285)) 280 9 (some 286)) 280 10 (some 287)) 280 11 (some 288)) 280 12 (some 289)), I, L))) (b := true) rfl rfl ?_
  have hF := hF.uR (c := 280) (i := 12) (v := some 289) (by decide)
  refine Rc.goL mt_1200 1 (f2 := (83, [.ref 280, UU], [.int (220 : Int32), .ref 280], (290, (upR (upR (upR (upR (upR (upR (upR (upR (upR R 280 4 (some 281)) 280 5 (some 282)) 280 6 (some 283)) 280 7 (some 284)) 280 8 (some 285)) 280 9 (some 286)) 280 10 (some 287)) 280 11 (some 288)) 280 12 (some 289)), I, L))) (b := true) rfl rfl ?_
  refine Rc.goL mt_1200 0 (f2 := (85, [.ref 280, UU], [.ref 290, .ref 280], nw (290, (upR (upR (upR (upR (upR (upR (upR (upR (upR R 280 4 (some 281)) 280 5 (some 282)) 280 6 (some 283)) 280 7 (some 284)) 280 8 (some 285)) 280 9 (some 286)) 280 10 (some 287)) 280 11 (some 288)) 280 12 (some 289)), I, L))) (b := ((Nat.beq (K0 290) (kAT .int) && decide (¬ (220 : Int32) < 0) && Nat.beq (Int32.toNatClampNeg (220 : Int32)) (Z0 290)) && true)) rfl (by decide +kernel) ?_
  rw [(hF.mk1 (m := 291) rfl (by decide)).1]
  have hF := (hF.mk1 (m := 291) rfl (by decide)).2
  refine Rc.goL mt_1200 0 (f2 := (88, [.ref 280, UU], [], (291, (upR (upR (upR (upR (upR (upR (upR (upR (upR (upR R 280 4 (some 281)) 280 5 (some 282)) 280 6 (some 283)) 280 7 (some 284)) 280 8 (some 285)) 280 9 (some 286)) 280 10 (some 287)) 280 11 (some 288)) 280 12 (some 289)) 280 21 (some 290)), I, L))) (b := true) rfl rfl ?_
  have hF := hF.uR (c := 280) (i := 21) (v := some 290) (by decide)
  refine Rc.goL mt_1200 1 (f2 := (92, [.ref 280, UU], [.int (220 : Int32), .ref 280], (291, (upR (upR (upR (upR (upR (upR (upR (upR (upR (upR R 280 4 (some 281)) 280 5 (some 282)) 280 6 (some 283)) 280 7 (some 284)) 280 8 (some 285)) 280 9 (some 286)) 280 10 (some 287)) 280 11 (some 288)) 280 12 (some 289)) 280 21 (some 290)), I, L))) (b := true) rfl rfl ?_
  refine Rc.goL mt_1200 0 (f2 := (94, [.ref 280, UU], [.ref 291, .ref 280], nw (291, (upR (upR (upR (upR (upR (upR (upR (upR (upR (upR R 280 4 (some 281)) 280 5 (some 282)) 280 6 (some 283)) 280 7 (some 284)) 280 8 (some 285)) 280 9 (some 286)) 280 10 (some 287)) 280 11 (some 288)) 280 12 (some 289)) 280 21 (some 290)), I, L))) (b := ((Nat.beq (K0 291) (kAT .int) && decide (¬ (220 : Int32) < 0) && Nat.beq (Int32.toNatClampNeg (220 : Int32)) (Z0 291)) && true)) rfl (by decide +kernel) ?_
  rw [(hF.mk1 (m := 292) rfl (by decide)).1]
  have hF := (hF.mk1 (m := 292) rfl (by decide)).2
  refine Rc.goL mt_1200 0 (f2 := (97, [.ref 280, UU], [], (292, (upR (upR (upR (upR (upR (upR (upR (upR (upR (upR (upR R 280 4 (some 281)) 280 5 (some 282)) 280 6 (some 283)) 280 7 (some 284)) 280 8 (some 285)) 280 9 (some 286)) 280 10 (some 287)) 280 11 (some 288)) 280 12 (some 289)) 280 21 (some 290)) 280 22 (some 291)), I, L))) (b := true) rfl rfl ?_
  have hF := hF.uR (c := 280) (i := 22) (v := some 291) (by decide)
  refine Rc.goL mt_1200 1 (f2 := (100, [.ref 280, UU], [.int (10 : Int32), .ref 280], (292, (upR (upR (upR (upR (upR (upR (upR (upR (upR (upR (upR R 280 4 (some 281)) 280 5 (some 282)) 280 6 (some 283)) 280 7 (some 284)) 280 8 (some 285)) 280 9 (some 286)) 280 10 (some 287)) 280 11 (some 288)) 280 12 (some 289)) 280 21 (some 290)) 280 22 (some 291)), I, L))) (b := true) rfl rfl ?_
  refine Rc.goL mt_1200 0 (f2 := (102, [.ref 280, UU], [.ref 292, .ref 280], nw (292, (upR (upR (upR (upR (upR (upR (upR (upR (upR (upR (upR R 280 4 (some 281)) 280 5 (some 282)) 280 6 (some 283)) 280 7 (some 284)) 280 8 (some 285)) 280 9 (some 286)) 280 10 (some 287)) 280 11 (some 288)) 280 12 (some 289)) 280 21 (some 290)) 280 22 (some 291)), I, L))) (b := ((Nat.beq (K0 292) (kAT .int) && decide (¬ (10 : Int32) < 0) && Nat.beq (Int32.toNatClampNeg (10 : Int32)) (Z0 292)) && true)) rfl (by decide +kernel) ?_
  rw [(hF.mk1 (m := 293) rfl (by decide)).1]
  have hF := (hF.mk1 (m := 293) rfl (by decide)).2
  refine Rc.goL mt_1200 0 (f2 := (105, [.ref 280, UU], [], (293, (upR (upR (upR (upR (upR (upR (upR (upR (upR (upR (upR (upR R 280 4 (some 281)) 280 5 (some 282)) 280 6 (some 283)) 280 7 (some 284)) 280 8 (some 285)) 280 9 (some 286)) 280 10 (some 287)) 280 11 (some 288)) 280 12 (some 289)) 280 21 (some 290)) 280 22 (some 291)) 280 23 (some 292)), I, L))) (b := true) rfl rfl ?_
  have hF := hF.uR (c := 280) (i := 23) (v := some 292) (by decide)
  refine Rc.goL mt_1200 1 (f2 := (108, [.ref 280, UU], [.int (10 : Int32), .ref 280], (293, (upR (upR (upR (upR (upR (upR (upR (upR (upR (upR (upR (upR R 280 4 (some 281)) 280 5 (some 282)) 280 6 (some 283)) 280 7 (some 284)) 280 8 (some 285)) 280 9 (some 286)) 280 10 (some 287)) 280 11 (some 288)) 280 12 (some 289)) 280 21 (some 290)) 280 22 (some 291)) 280 23 (some 292)), I, L))) (b := true) rfl rfl ?_
  refine Rc.goL mt_1200 0 (f2 := (110, [.ref 280, UU], [.ref 293, .ref 280], nw (293, (upR (upR (upR (upR (upR (upR (upR (upR (upR (upR (upR (upR R 280 4 (some 281)) 280 5 (some 282)) 280 6 (some 283)) 280 7 (some 284)) 280 8 (some 285)) 280 9 (some 286)) 280 10 (some 287)) 280 11 (some 288)) 280 12 (some 289)) 280 21 (some 290)) 280 22 (some 291)) 280 23 (some 292)), I, L))) (b := ((Nat.beq (K0 293) (kAT .int) && decide (¬ (10 : Int32) < 0) && Nat.beq (Int32.toNatClampNeg (10 : Int32)) (Z0 293)) && true)) rfl (by decide +kernel) ?_
  rw [(hF.mk1 (m := 294) rfl (by decide)).1]
  have hF := (hF.mk1 (m := 294) rfl (by decide)).2
  refine Rc.goL mt_1200 0 (f2 := (113, [.ref 280, UU], [], (294, (upR (upR (upR (upR (upR (upR (upR (upR (upR (upR (upR (upR (upR R 280 4 (some 281)) 280 5 (some 282)) 280 6 (some 283)) 280 7 (some 284)) 280 8 (some 285)) 280 9 (some 286)) 280 10 (some 287)) 280 11 (some 288)) 280 12 (some 289)) 280 21 (some 290)) 280 22 (some 291)) 280 23 (some 292)) 280 24 (some 293)), I, L))) (b := true) rfl rfl ?_
  have hF := hF.uR (c := 280) (i := 24) (v := some 293) (by decide)
  refine Rc.goL mt_1200 1 (f2 := (116, [.ref 280, UU], [.int (11 : Int32), .ref 280], (294, (upR (upR (upR (upR (upR (upR (upR (upR (upR (upR (upR (upR (upR R 280 4 (some 281)) 280 5 (some 282)) 280 6 (some 283)) 280 7 (some 284)) 280 8 (some 285)) 280 9 (some 286)) 280 10 (some 287)) 280 11 (some 288)) 280 12 (some 289)) 280 21 (some 290)) 280 22 (some 291)) 280 23 (some 292)) 280 24 (some 293)), I, L))) (b := true) rfl rfl ?_
  refine Rc.goL mt_1200 0 (f2 := (118, [.ref 280, UU], [.ref 294, .ref 280], nw (294, (upR (upR (upR (upR (upR (upR (upR (upR (upR (upR (upR (upR (upR R 280 4 (some 281)) 280 5 (some 282)) 280 6 (some 283)) 280 7 (some 284)) 280 8 (some 285)) 280 9 (some 286)) 280 10 (some 287)) 280 11 (some 288)) 280 12 (some 289)) 280 21 (some 290)) 280 22 (some 291)) 280 23 (some 292)) 280 24 (some 293)), I, L))) (b := ((Nat.beq (K0 294) (kAT .int) && decide (¬ (11 : Int32) < 0) && Nat.beq (Int32.toNatClampNeg (11 : Int32)) (Z0 294)) && true)) rfl (by decide +kernel) ?_
  rw [(hF.mk1 (m := 295) rfl (by decide)).1]
  have hF := (hF.mk1 (m := 295) rfl (by decide)).2
  refine Rc.goL mt_1200 0 (f2 := (121, [.ref 280, UU], [], (295, (upR (upR (upR (upR (upR (upR (upR (upR (upR (upR (upR (upR (upR (upR R 280 4 (some 281)) 280 5 (some 282)) 280 6 (some 283)) 280 7 (some 284)) 280 8 (some 285)) 280 9 (some 286)) 280 10 (some 287)) 280 11 (some 288)) 280 12 (some 289)) 280 21 (some 290)) 280 22 (some 291)) 280 23 (some 292)) 280 24 (some 293)) 280 25 (some 294)), I, L))) (b := true) rfl rfl ?_
  have hF := hF.uR (c := 280) (i := 25) (v := some 294) (by decide)
  refine Rc.goL mt_1200 1 (f2 := (124, [.ref 280, UU], [.int (10 : Int32), .ref 280], (295, (upR (upR (upR (upR (upR (upR (upR (upR (upR (upR (upR (upR (upR (upR R 280 4 (some 281)) 280 5 (some 282)) 280 6 (some 283)) 280 7 (some 284)) 280 8 (some 285)) 280 9 (some 286)) 280 10 (some 287)) 280 11 (some 288)) 280 12 (some 289)) 280 21 (some 290)) 280 22 (some 291)) 280 23 (some 292)) 280 24 (some 293)) 280 25 (some 294)), I, L))) (b := true) rfl rfl ?_
  refine Rc.goL mt_1200 0 (f2 := (126, [.ref 280, UU], [.ref 295, .ref 280], nw (295, (upR (upR (upR (upR (upR (upR (upR (upR (upR (upR (upR (upR (upR (upR R 280 4 (some 281)) 280 5 (some 282)) 280 6 (some 283)) 280 7 (some 284)) 280 8 (some 285)) 280 9 (some 286)) 280 10 (some 287)) 280 11 (some 288)) 280 12 (some 289)) 280 21 (some 290)) 280 22 (some 291)) 280 23 (some 292)) 280 24 (some 293)) 280 25 (some 294)), I, L))) (b := ((Nat.beq (K0 295) (kAT .int) && decide (¬ (10 : Int32) < 0) && Nat.beq (Int32.toNatClampNeg (10 : Int32)) (Z0 295)) && true)) rfl (by decide +kernel) ?_
  rw [(hF.mk1 (m := 296) rfl (by decide)).1]
  have hF := (hF.mk1 (m := 296) rfl (by decide)).2
  refine Rc.goL mt_1200 0 (f2 := (129, [.ref 280, UU], [], (296, (upR (upR (upR (upR (upR (upR (upR (upR (upR (upR (upR (upR (upR (upR (upR R 280 4 (some 281)) 280 5 (some 282)) 280 6 (some 283)) 280 7 (some 284)) 280 8 (some 285)) 280 9 (some 286)) 280 10 (some 287)) 280 11 (some 288)) 280 12 (some 289)) 280 21 (some 290)) 280 22 (some 291)) 280 23 (some 292)) 280 24 (some 293)) 280 25 (some 294)) 280 26 (some 295)), I, L))) (b := true) rfl rfl ?_
  have hF := hF.uR (c := 280) (i := 26) (v := some 295) (by decide)
  refine Rc.goL mt_1200 1 (f2 := (133, [.ref 280, UU], [.int (2200 : Int32), .ref 280], (296, (upR (upR (upR (upR (upR (upR (upR (upR (upR (upR (upR (upR (upR (upR (upR R 280 4 (some 281)) 280 5 (some 282)) 280 6 (some 283)) 280 7 (some 284)) 280 8 (some 285)) 280 9 (some 286)) 280 10 (some 287)) 280 11 (some 288)) 280 12 (some 289)) 280 21 (some 290)) 280 22 (some 291)) 280 23 (some 292)) 280 24 (some 293)) 280 25 (some 294)) 280 26 (some 295)), I, L))) (b := true) rfl rfl ?_
  refine Rc.goL mt_1200 0 (f2 := (135, [.ref 280, UU], [.ref 296, .ref 280], nw (296, (upR (upR (upR (upR (upR (upR (upR (upR (upR (upR (upR (upR (upR (upR (upR R 280 4 (some 281)) 280 5 (some 282)) 280 6 (some 283)) 280 7 (some 284)) 280 8 (some 285)) 280 9 (some 286)) 280 10 (some 287)) 280 11 (some 288)) 280 12 (some 289)) 280 21 (some 290)) 280 22 (some 291)) 280 23 (some 292)) 280 24 (some 293)) 280 25 (some 294)) 280 26 (some 295)), I, L))) (b := ((Nat.beq (K0 296) (kAT .int) && decide (¬ (2200 : Int32) < 0) && Nat.beq (Int32.toNatClampNeg (2200 : Int32)) (Z0 296)) && true)) rfl (by decide +kernel) ?_
  rw [(hF.mk1 (m := 297) rfl (by decide)).1]
  have hF := (hF.mk1 (m := 297) rfl (by decide)).2
  refine Rc.goL mt_1200 0 (f2 := (138, [.ref 280, UU], [], (297, (upR (upR (upR (upR (upR (upR (upR (upR (upR (upR (upR (upR (upR (upR (upR (upR R 280 4 (some 281)) 280 5 (some 282)) 280 6 (some 283)) 280 7 (some 284)) 280 8 (some 285)) 280 9 (some 286)) 280 10 (some 287)) 280 11 (some 288)) 280 12 (some 289)) 280 21 (some 290)) 280 22 (some 291)) 280 23 (some 292)) 280 24 (some 293)) 280 25 (some 294)) 280 26 (some 295)) 280 29 (some 296)), I, L))) (b := true) rfl rfl ?_
  have hF := hF.uR (c := 280) (i := 29) (v := some 296) (by decide)
  refine Rc.goL mt_1200 1 (f2 := (141, [.ref 280, UU], [.int (10 : Int32), .ref 280], (297, (upR (upR (upR (upR (upR (upR (upR (upR (upR (upR (upR (upR (upR (upR (upR (upR R 280 4 (some 281)) 280 5 (some 282)) 280 6 (some 283)) 280 7 (some 284)) 280 8 (some 285)) 280 9 (some 286)) 280 10 (some 287)) 280 11 (some 288)) 280 12 (some 289)) 280 21 (some 290)) 280 22 (some 291)) 280 23 (some 292)) 280 24 (some 293)) 280 25 (some 294)) 280 26 (some 295)) 280 29 (some 296)), I, L))) (b := true) rfl rfl ?_
  refine Rc.goL mt_1200 0 (f2 := (143, [.ref 280, UU], [.ref 297, .ref 280], nw (297, (upR (upR (upR (upR (upR (upR (upR (upR (upR (upR (upR (upR (upR (upR (upR (upR R 280 4 (some 281)) 280 5 (some 282)) 280 6 (some 283)) 280 7 (some 284)) 280 8 (some 285)) 280 9 (some 286)) 280 10 (some 287)) 280 11 (some 288)) 280 12 (some 289)) 280 21 (some 290)) 280 22 (some 291)) 280 23 (some 292)) 280 24 (some 293)) 280 25 (some 294)) 280 26 (some 295)) 280 29 (some 296)), I, L))) (b := ((Nat.beq (K0 297) (kAT .int) && decide (¬ (10 : Int32) < 0) && Nat.beq (Int32.toNatClampNeg (10 : Int32)) (Z0 297)) && true)) rfl (by decide +kernel) ?_
  rw [(hF.mk1 (m := 298) rfl (by decide)).1]
  have hF := (hF.mk1 (m := 298) rfl (by decide)).2
  refine Rc.goL mt_1200 0 (f2 := (146, [.ref 280, UU], [], (298, (upR (upR (upR (upR (upR (upR (upR (upR (upR (upR (upR (upR (upR (upR (upR (upR (upR R 280 4 (some 281)) 280 5 (some 282)) 280 6 (some 283)) 280 7 (some 284)) 280 8 (some 285)) 280 9 (some 286)) 280 10 (some 287)) 280 11 (some 288)) 280 12 (some 289)) 280 21 (some 290)) 280 22 (some 291)) 280 23 (some 292)) 280 24 (some 293)) 280 25 (some 294)) 280 26 (some 295)) 280 29 (some 296)) 280 30 (some 297)), I, L))) (b := true) rfl rfl ?_
  have hF := hF.uR (c := 280) (i := 30) (v := some 297) (by decide)
  refine Rc.goL mt_1200 1 (f2 := (149, [.ref 280, UU], [.int (100 : Int32), .ref 280], (298, (upR (upR (upR (upR (upR (upR (upR (upR (upR (upR (upR (upR (upR (upR (upR (upR (upR R 280 4 (some 281)) 280 5 (some 282)) 280 6 (some 283)) 280 7 (some 284)) 280 8 (some 285)) 280 9 (some 286)) 280 10 (some 287)) 280 11 (some 288)) 280 12 (some 289)) 280 21 (some 290)) 280 22 (some 291)) 280 23 (some 292)) 280 24 (some 293)) 280 25 (some 294)) 280 26 (some 295)) 280 29 (some 296)) 280 30 (some 297)), I, L))) (b := true) rfl rfl ?_
  refine Rc.goL mt_1200 0 (f2 := (151, [.ref 280, UU], [.ref 298, .ref 280], nw (298, (upR (upR (upR (upR (upR (upR (upR (upR (upR (upR (upR (upR (upR (upR (upR (upR (upR R 280 4 (some 281)) 280 5 (some 282)) 280 6 (some 283)) 280 7 (some 284)) 280 8 (some 285)) 280 9 (some 286)) 280 10 (some 287)) 280 11 (some 288)) 280 12 (some 289)) 280 21 (some 290)) 280 22 (some 291)) 280 23 (some 292)) 280 24 (some 293)) 280 25 (some 294)) 280 26 (some 295)) 280 29 (some 296)) 280 30 (some 297)), I, L))) (b := ((Nat.beq (K0 298) (kAT .int) && decide (¬ (100 : Int32) < 0) && Nat.beq (Int32.toNatClampNeg (100 : Int32)) (Z0 298)) && true)) rfl (by decide +kernel) ?_
  rw [(hF.mk1 (m := 299) rfl (by decide)).1]
  have hF := (hF.mk1 (m := 299) rfl (by decide)).2
  refine Rc.goL mt_1200 0 (f2 := (154, [.ref 280, UU], [], (299, (upR (upR (upR (upR (upR (upR (upR (upR (upR (upR (upR (upR (upR (upR (upR (upR (upR (upR R 280 4 (some 281)) 280 5 (some 282)) 280 6 (some 283)) 280 7 (some 284)) 280 8 (some 285)) 280 9 (some 286)) 280 10 (some 287)) 280 11 (some 288)) 280 12 (some 289)) 280 21 (some 290)) 280 22 (some 291)) 280 23 (some 292)) 280 24 (some 293)) 280 25 (some 294)) 280 26 (some 295)) 280 29 (some 296)) 280 30 (some 297)) 280 31 (some 298)), I, L))) (b := true) rfl rfl ?_
  have hF := hF.uR (c := 280) (i := 31) (v := some 298) (by decide)
  refine Rc.goL mt_1200 1 (f2 := (157, [.ref 280, UU], [.int (100 : Int32), .ref 280], (299, (upR (upR (upR (upR (upR (upR (upR (upR (upR (upR (upR (upR (upR (upR (upR (upR (upR (upR R 280 4 (some 281)) 280 5 (some 282)) 280 6 (some 283)) 280 7 (some 284)) 280 8 (some 285)) 280 9 (some 286)) 280 10 (some 287)) 280 11 (some 288)) 280 12 (some 289)) 280 21 (some 290)) 280 22 (some 291)) 280 23 (some 292)) 280 24 (some 293)) 280 25 (some 294)) 280 26 (some 295)) 280 29 (some 296)) 280 30 (some 297)) 280 31 (some 298)), I, L))) (b := true) rfl rfl ?_
  refine Rc.goL mt_1200 0 (f2 := (159, [.ref 280, UU], [.ref 299, .ref 280], nw (299, (upR (upR (upR (upR (upR (upR (upR (upR (upR (upR (upR (upR (upR (upR (upR (upR (upR (upR R 280 4 (some 281)) 280 5 (some 282)) 280 6 (some 283)) 280 7 (some 284)) 280 8 (some 285)) 280 9 (some 286)) 280 10 (some 287)) 280 11 (some 288)) 280 12 (some 289)) 280 21 (some 290)) 280 22 (some 291)) 280 23 (some 292)) 280 24 (some 293)) 280 25 (some 294)) 280 26 (some 295)) 280 29 (some 296)) 280 30 (some 297)) 280 31 (some 298)), I, L))) (b := ((Nat.beq (K0 299) (kAT .int) && decide (¬ (100 : Int32) < 0) && Nat.beq (Int32.toNatClampNeg (100 : Int32)) (Z0 299)) && true)) rfl (by decide +kernel) ?_
  rw [(hF.mk1 (m := 300) rfl (by decide)).1]
  have hF := (hF.mk1 (m := 300) rfl (by decide)).2
  refine Rc.goL mt_1200 0 (f2 := (162, [.ref 280, UU], [], (300, (upR (upR (upR (upR (upR (upR (upR (upR (upR (upR (upR (upR (upR (upR (upR (upR (upR (upR (upR R 280 4 (some 281)) 280 5 (some 282)) 280 6 (some 283)) 280 7 (some 284)) 280 8 (some 285)) 280 9 (some 286)) 280 10 (some 287)) 280 11 (some 288)) 280 12 (some 289)) 280 21 (some 290)) 280 22 (some 291)) 280 23 (some 292)) 280 24 (some 293)) 280 25 (some 294)) 280 26 (some 295)) 280 29 (some 296)) 280 30 (some 297)) 280 31 (some 298)) 280 32 (some 299)), I, L))) (b := true) rfl rfl ?_
  have hF := hF.uR (c := 280) (i := 32) (v := some 299) (by decide)
  refine Rc.goL mt_1200 1 (f2 := (165, [.ref 280, UU], [.int (100 : Int32), .ref 280], (300, (upR (upR (upR (upR (upR (upR (upR (upR (upR (upR (upR (upR (upR (upR (upR (upR (upR (upR (upR R 280 4 (some 281)) 280 5 (some 282)) 280 6 (some 283)) 280 7 (some 284)) 280 8 (some 285)) 280 9 (some 286)) 280 10 (some 287)) 280 11 (some 288)) 280 12 (some 289)) 280 21 (some 290)) 280 22 (some 291)) 280 23 (some 292)) 280 24 (some 293)) 280 25 (some 294)) 280 26 (some 295)) 280 29 (some 296)) 280 30 (some 297)) 280 31 (some 298)) 280 32 (some 299)), I, L))) (b := true) rfl rfl ?_
  refine Rc.goL mt_1200 0 (f2 := (167, [.ref 280, UU], [.ref 300, .ref 280], nw (300, (upR (upR (upR (upR (upR (upR (upR (upR (upR (upR (upR (upR (upR (upR (upR (upR (upR (upR (upR R 280 4 (some 281)) 280 5 (some 282)) 280 6 (some 283)) 280 7 (some 284)) 280 8 (some 285)) 280 9 (some 286)) 280 10 (some 287)) 280 11 (some 288)) 280 12 (some 289)) 280 21 (some 290)) 280 22 (some 291)) 280 23 (some 292)) 280 24 (some 293)) 280 25 (some 294)) 280 26 (some 295)) 280 29 (some 296)) 280 30 (some 297)) 280 31 (some 298)) 280 32 (some 299)), I, L))) (b := ((Nat.beq (K0 300) (kAT .int) && decide (¬ (100 : Int32) < 0) && Nat.beq (Int32.toNatClampNeg (100 : Int32)) (Z0 300)) && true)) rfl (by decide +kernel) ?_
  rw [(hF.mk1 (m := 301) rfl (by decide)).1]
  have hF := (hF.mk1 (m := 301) rfl (by decide)).2
  refine Rc.goL mt_1200 0 (f2 := (170, [.ref 280, UU], [], (301, (upR (upR (upR (upR (upR (upR (upR (upR (upR (upR (upR (upR (upR (upR (upR (upR (upR (upR (upR (upR R 280 4 (some 281)) 280 5 (some 282)) 280 6 (some 283)) 280 7 (some 284)) 280 8 (some 285)) 280 9 (some 286)) 280 10 (some 287)) 280 11 (some 288)) 280 12 (some 289)) 280 21 (some 290)) 280 22 (some 291)) 280 23 (some 292)) 280 24 (some 293)) 280 25 (some 294)) 280 26 (some 295)) 280 29 (some 296)) 280 30 (some 297)) 280 31 (some 298)) 280 32 (some 299)) 280 33 (some 300)), I, L))) (b := true) rfl rfl ?_
  have hF := hF.uR (c := 280) (i := 33) (v := some 300) (by decide)
  refine Rc.goL mt_1200 1 (f2 := (174, [.ref 280, UU], [.int (800 : Int32), .ref 280], (301, (upR (upR (upR (upR (upR (upR (upR (upR (upR (upR (upR (upR (upR (upR (upR (upR (upR (upR (upR (upR R 280 4 (some 281)) 280 5 (some 282)) 280 6 (some 283)) 280 7 (some 284)) 280 8 (some 285)) 280 9 (some 286)) 280 10 (some 287)) 280 11 (some 288)) 280 12 (some 289)) 280 21 (some 290)) 280 22 (some 291)) 280 23 (some 292)) 280 24 (some 293)) 280 25 (some 294)) 280 26 (some 295)) 280 29 (some 296)) 280 30 (some 297)) 280 31 (some 298)) 280 32 (some 299)) 280 33 (some 300)), I, L))) (b := true) rfl rfl ?_
  refine Rc.goL mt_1200 0 (f2 := (176, [.ref 280, UU], [.ref 301, .ref 280], nw (301, (upR (upR (upR (upR (upR (upR (upR (upR (upR (upR (upR (upR (upR (upR (upR (upR (upR (upR (upR (upR R 280 4 (some 281)) 280 5 (some 282)) 280 6 (some 283)) 280 7 (some 284)) 280 8 (some 285)) 280 9 (some 286)) 280 10 (some 287)) 280 11 (some 288)) 280 12 (some 289)) 280 21 (some 290)) 280 22 (some 291)) 280 23 (some 292)) 280 24 (some 293)) 280 25 (some 294)) 280 26 (some 295)) 280 29 (some 296)) 280 30 (some 297)) 280 31 (some 298)) 280 32 (some 299)) 280 33 (some 300)), I, L))) (b := ((Nat.beq (K0 301) (kAT .int) && decide (¬ (800 : Int32) < 0) && Nat.beq (Int32.toNatClampNeg (800 : Int32)) (Z0 301)) && true)) rfl (by decide +kernel) ?_
  rw [(hF.mk1 (m := 302) rfl (by decide)).1]
  have hF := (hF.mk1 (m := 302) rfl (by decide)).2
  refine Rc.goL mt_1200 0 (f2 := (179, [.ref 280, UU], [], (302, (upR (upR (upR (upR (upR (upR (upR (upR (upR (upR (upR (upR (upR (upR (upR (upR (upR (upR (upR (upR (upR R 280 4 (some 281)) 280 5 (some 282)) 280 6 (some 283)) 280 7 (some 284)) 280 8 (some 285)) 280 9 (some 286)) 280 10 (some 287)) 280 11 (some 288)) 280 12 (some 289)) 280 21 (some 290)) 280 22 (some 291)) 280 23 (some 292)) 280 24 (some 293)) 280 25 (some 294)) 280 26 (some 295)) 280 29 (some 296)) 280 30 (some 297)) 280 31 (some 298)) 280 32 (some 299)) 280 33 (some 300)) 280 34 (some 301)), I, L))) (b := true) rfl rfl ?_
  have hF := hF.uR (c := 280) (i := 34) (v := some 301) (by decide)
  refine Rc.goL mt_1200 1 (f2 := (182, [.ref 280, UU], [.int (10 : Int32), .ref 280], (302, (upR (upR (upR (upR (upR (upR (upR (upR (upR (upR (upR (upR (upR (upR (upR (upR (upR (upR (upR (upR (upR R 280 4 (some 281)) 280 5 (some 282)) 280 6 (some 283)) 280 7 (some 284)) 280 8 (some 285)) 280 9 (some 286)) 280 10 (some 287)) 280 11 (some 288)) 280 12 (some 289)) 280 21 (some 290)) 280 22 (some 291)) 280 23 (some 292)) 280 24 (some 293)) 280 25 (some 294)) 280 26 (some 295)) 280 29 (some 296)) 280 30 (some 297)) 280 31 (some 298)) 280 32 (some 299)) 280 33 (some 300)) 280 34 (some 301)), I, L))) (b := true) rfl rfl ?_
  refine Rc.goL mt_1200 0 (f2 := (184, [.ref 280, UU], [.ref 302, .ref 280], nw (302, (upR (upR (upR (upR (upR (upR (upR (upR (upR (upR (upR (upR (upR (upR (upR (upR (upR (upR (upR (upR (upR R 280 4 (some 281)) 280 5 (some 282)) 280 6 (some 283)) 280 7 (some 284)) 280 8 (some 285)) 280 9 (some 286)) 280 10 (some 287)) 280 11 (some 288)) 280 12 (some 289)) 280 21 (some 290)) 280 22 (some 291)) 280 23 (some 292)) 280 24 (some 293)) 280 25 (some 294)) 280 26 (some 295)) 280 29 (some 296)) 280 30 (some 297)) 280 31 (some 298)) 280 32 (some 299)) 280 33 (some 300)) 280 34 (some 301)), I, L))) (b := ((Nat.beq (K0 302) (kAT .int) && decide (¬ (10 : Int32) < 0) && Nat.beq (Int32.toNatClampNeg (10 : Int32)) (Z0 302)) && true)) rfl (by decide +kernel) ?_
  rw [(hF.mk1 (m := 303) rfl (by decide)).1]
  have hF := (hF.mk1 (m := 303) rfl (by decide)).2
  refine Rc.goL mt_1200 0 (f2 := (187, [.ref 280, UU], [], (303, (upR (upR (upR (upR (upR (upR (upR (upR (upR (upR (upR (upR (upR (upR (upR (upR (upR (upR (upR (upR (upR (upR R 280 4 (some 281)) 280 5 (some 282)) 280 6 (some 283)) 280 7 (some 284)) 280 8 (some 285)) 280 9 (some 286)) 280 10 (some 287)) 280 11 (some 288)) 280 12 (some 289)) 280 21 (some 290)) 280 22 (some 291)) 280 23 (some 292)) 280 24 (some 293)) 280 25 (some 294)) 280 26 (some 295)) 280 29 (some 296)) 280 30 (some 297)) 280 31 (some 298)) 280 32 (some 299)) 280 33 (some 300)) 280 34 (some 301)) 280 35 (some 302)), I, L))) (b := true) rfl rfl ?_
  have hF := hF.uR (c := 280) (i := 35) (v := some 302) (by decide)
  refine Rc.goL mt_1200 1 (f2 := (190, [.ref 280, UU], [.int (10 : Int32), .ref 280], (303, (upR (upR (upR (upR (upR (upR (upR (upR (upR (upR (upR (upR (upR (upR (upR (upR (upR (upR (upR (upR (upR (upR R 280 4 (some 281)) 280 5 (some 282)) 280 6 (some 283)) 280 7 (some 284)) 280 8 (some 285)) 280 9 (some 286)) 280 10 (some 287)) 280 11 (some 288)) 280 12 (some 289)) 280 21 (some 290)) 280 22 (some 291)) 280 23 (some 292)) 280 24 (some 293)) 280 25 (some 294)) 280 26 (some 295)) 280 29 (some 296)) 280 30 (some 297)) 280 31 (some 298)) 280 32 (some 299)) 280 33 (some 300)) 280 34 (some 301)) 280 35 (some 302)), I, L))) (b := true) rfl rfl ?_
  refine Rc.goL mt_1200 0 (f2 := (192, [.ref 280, UU], [.ref 303, .ref 280], nw (303, (upR (upR (upR (upR (upR (upR (upR (upR (upR (upR (upR (upR (upR (upR (upR (upR (upR (upR (upR (upR (upR (upR R 280 4 (some 281)) 280 5 (some 282)) 280 6 (some 283)) 280 7 (some 284)) 280 8 (some 285)) 280 9 (some 286)) 280 10 (some 287)) 280 11 (some 288)) 280 12 (some 289)) 280 21 (some 290)) 280 22 (some 291)) 280 23 (some 292)) 280 24 (some 293)) 280 25 (some 294)) 280 26 (some 295)) 280 29 (some 296)) 280 30 (some 297)) 280 31 (some 298)) 280 32 (some 299)) 280 33 (some 300)) 280 34 (some 301)) 280 35 (some 302)), I, L))) (b := ((Nat.beq (K0 303) (kAT .int) && decide (¬ (10 : Int32) < 0) && Nat.beq (Int32.toNatClampNeg (10 : Int32)) (Z0 303)) && true)) rfl (by decide +kernel) ?_
  rw [(hF.mk1 (m := 304) rfl (by decide)).1]
  have hF := (hF.mk1 (m := 304) rfl (by decide)).2
  refine Rc.goL mt_1200 0 (f2 := (195, [.ref 280, UU], [], (304, (upR (upR (upR (upR (upR (upR (upR (upR (upR (upR (upR (upR (upR (upR (upR (upR (upR (upR (upR (upR (upR (upR (upR R 280 4 (some 281)) 280 5 (some 282)) 280 6 (some 283)) 280 7 (some 284)) 280 8 (some 285)) 280 9 (some 286)) 280 10 (some 287)) 280 11 (some 288)) 280 12 (some 289)) 280 21 (some 290)) 280 22 (some 291)) 280 23 (some 292)) 280 24 (some 293)) 280 25 (some 294)) 280 26 (some 295)) 280 29 (some 296)) 280 30 (some 297)) 280 31 (some 298)) 280 32 (some 299)) 280 33 (some 300)) 280 34 (some 301)) 280 35 (some 302)) 280 36 (some 303)), I, L))) (b := true) rfl rfl ?_
  have hF := hF.uR (c := 280) (i := 36) (v := some 303) (by decide)
  refine Rc.goL mt_1200 1 (f2 := (198, [.ref 280, UU], [.int (10 : Int32), .ref 280], (304, (upR (upR (upR (upR (upR (upR (upR (upR (upR (upR (upR (upR (upR (upR (upR (upR (upR (upR (upR (upR (upR (upR (upR R 280 4 (some 281)) 280 5 (some 282)) 280 6 (some 283)) 280 7 (some 284)) 280 8 (some 285)) 280 9 (some 286)) 280 10 (some 287)) 280 11 (some 288)) 280 12 (some 289)) 280 21 (some 290)) 280 22 (some 291)) 280 23 (some 292)) 280 24 (some 293)) 280 25 (some 294)) 280 26 (some 295)) 280 29 (some 296)) 280 30 (some 297)) 280 31 (some 298)) 280 32 (some 299)) 280 33 (some 300)) 280 34 (some 301)) 280 35 (some 302)) 280 36 (some 303)), I, L))) (b := true) rfl rfl ?_
  refine Rc.goL mt_1200 0 (f2 := (200, [.ref 280, UU], [.ref 304, .ref 280], nw (304, (upR (upR (upR (upR (upR (upR (upR (upR (upR (upR (upR (upR (upR (upR (upR (upR (upR (upR (upR (upR (upR (upR (upR R 280 4 (some 281)) 280 5 (some 282)) 280 6 (some 283)) 280 7 (some 284)) 280 8 (some 285)) 280 9 (some 286)) 280 10 (some 287)) 280 11 (some 288)) 280 12 (some 289)) 280 21 (some 290)) 280 22 (some 291)) 280 23 (some 292)) 280 24 (some 293)) 280 25 (some 294)) 280 26 (some 295)) 280 29 (some 296)) 280 30 (some 297)) 280 31 (some 298)) 280 32 (some 299)) 280 33 (some 300)) 280 34 (some 301)) 280 35 (some 302)) 280 36 (some 303)), I, L))) (b := ((Nat.beq (K0 304) (kAT .int) && decide (¬ (10 : Int32) < 0) && Nat.beq (Int32.toNatClampNeg (10 : Int32)) (Z0 304)) && true)) rfl (by decide +kernel) ?_
  rw [(hF.mk1 (m := 305) rfl (by decide)).1]
  have hF := (hF.mk1 (m := 305) rfl (by decide)).2
  refine Rc.goL mt_1200 0 (f2 := (203, [.ref 280, UU], [], (305, (upR (upR (upR (upR (upR (upR (upR (upR (upR (upR (upR (upR (upR (upR (upR (upR (upR (upR (upR (upR (upR (upR (upR (upR R 280 4 (some 281)) 280 5 (some 282)) 280 6 (some 283)) 280 7 (some 284)) 280 8 (some 285)) 280 9 (some 286)) 280 10 (some 287)) 280 11 (some 288)) 280 12 (some 289)) 280 21 (some 290)) 280 22 (some 291)) 280 23 (some 292)) 280 24 (some 293)) 280 25 (some 294)) 280 26 (some 295)) 280 29 (some 296)) 280 30 (some 297)) 280 31 (some 298)) 280 32 (some 299)) 280 33 (some 300)) 280 34 (some 301)) 280 35 (some 302)) 280 36 (some 303)) 280 37 (some 304)), I, L))) (b := true) rfl rfl ?_
  have hF := hF.uR (c := 280) (i := 37) (v := some 304) (by decide)
  refine Rc.goL mt_1200 1 (f2 := (206, [.ref 280, UU], [.int (10 : Int32), .ref 280], (305, (upR (upR (upR (upR (upR (upR (upR (upR (upR (upR (upR (upR (upR (upR (upR (upR (upR (upR (upR (upR (upR (upR (upR (upR R 280 4 (some 281)) 280 5 (some 282)) 280 6 (some 283)) 280 7 (some 284)) 280 8 (some 285)) 280 9 (some 286)) 280 10 (some 287)) 280 11 (some 288)) 280 12 (some 289)) 280 21 (some 290)) 280 22 (some 291)) 280 23 (some 292)) 280 24 (some 293)) 280 25 (some 294)) 280 26 (some 295)) 280 29 (some 296)) 280 30 (some 297)) 280 31 (some 298)) 280 32 (some 299)) 280 33 (some 300)) 280 34 (some 301)) 280 35 (some 302)) 280 36 (some 303)) 280 37 (some 304)), I, L))) (b := true) rfl rfl ?_
  refine Rc.goL mt_1200 0 (f2 := (208, [.ref 280, UU], [.ref 305, .ref 280], nw (305, (upR (upR (upR (upR (upR (upR (upR (upR (upR (upR (upR (upR (upR (upR (upR (upR (upR (upR (upR (upR (upR (upR (upR (upR R 280 4 (some 281)) 280 5 (some 282)) 280 6 (some 283)) 280 7 (some 284)) 280 8 (some 285)) 280 9 (some 286)) 280 10 (some 287)) 280 11 (some 288)) 280 12 (some 289)) 280 21 (some 290)) 280 22 (some 291)) 280 23 (some 292)) 280 24 (some 293)) 280 25 (some 294)) 280 26 (some 295)) 280 29 (some 296)) 280 30 (some 297)) 280 31 (some 298)) 280 32 (some 299)) 280 33 (some 300)) 280 34 (some 301)) 280 35 (some 302)) 280 36 (some 303)) 280 37 (some 304)), I, L))) (b := ((Nat.beq (K0 305) (kAT .int) && decide (¬ (10 : Int32) < 0) && Nat.beq (Int32.toNatClampNeg (10 : Int32)) (Z0 305)) && true)) rfl (by decide +kernel) ?_
  rw [(hF.mk1 (m := 306) rfl (by decide)).1]
  have hF := (hF.mk1 (m := 306) rfl (by decide)).2
  refine Rc.goL mt_1200 0 (f2 := (211, [.ref 280, UU], [], (306, (upR (upR (upR (upR (upR (upR (upR (upR (upR (upR (upR (upR (upR (upR (upR (upR (upR (upR (upR (upR (upR (upR (upR (upR (upR R 280 4 (some 281)) 280 5 (some 282)) 280 6 (some 283)) 280 7 (some 284)) 280 8 (some 285)) 280 9 (some 286)) 280 10 (some 287)) 280 11 (some 288)) 280 12 (some 289)) 280 21 (some 290)) 280 22 (some 291)) 280 23 (some 292)) 280 24 (some 293)) 280 25 (some 294)) 280 26 (some 295)) 280 29 (some 296)) 280 30 (some 297)) 280 31 (some 298)) 280 32 (some 299)) 280 33 (some 300)) 280 34 (some 301)) 280 35 (some 302)) 280 36 (some 303)) 280 37 (some 304)) 280 38 (some 305)), I, L))) (b := true) rfl rfl ?_
  have hF := hF.uR (c := 280) (i := 38) (v := some 305) (by decide)
  refine Rc.goL mt_1200 1 (f2 := (214, [.ref 280, UU], [.int (10 : Int32), .ref 280], (306, (upR (upR (upR (upR (upR (upR (upR (upR (upR (upR (upR (upR (upR (upR (upR (upR (upR (upR (upR (upR (upR (upR (upR (upR (upR R 280 4 (some 281)) 280 5 (some 282)) 280 6 (some 283)) 280 7 (some 284)) 280 8 (some 285)) 280 9 (some 286)) 280 10 (some 287)) 280 11 (some 288)) 280 12 (some 289)) 280 21 (some 290)) 280 22 (some 291)) 280 23 (some 292)) 280 24 (some 293)) 280 25 (some 294)) 280 26 (some 295)) 280 29 (some 296)) 280 30 (some 297)) 280 31 (some 298)) 280 32 (some 299)) 280 33 (some 300)) 280 34 (some 301)) 280 35 (some 302)) 280 36 (some 303)) 280 37 (some 304)) 280 38 (some 305)), I, L))) (b := true) rfl rfl ?_
  refine Rc.goL mt_1200 0 (f2 := (216, [.ref 280, UU], [.ref 306, .ref 280], nw (306, (upR (upR (upR (upR (upR (upR (upR (upR (upR (upR (upR (upR (upR (upR (upR (upR (upR (upR (upR (upR (upR (upR (upR (upR (upR R 280 4 (some 281)) 280 5 (some 282)) 280 6 (some 283)) 280 7 (some 284)) 280 8 (some 285)) 280 9 (some 286)) 280 10 (some 287)) 280 11 (some 288)) 280 12 (some 289)) 280 21 (some 290)) 280 22 (some 291)) 280 23 (some 292)) 280 24 (some 293)) 280 25 (some 294)) 280 26 (some 295)) 280 29 (some 296)) 280 30 (some 297)) 280 31 (some 298)) 280 32 (some 299)) 280 33 (some 300)) 280 34 (some 301)) 280 35 (some 302)) 280 36 (some 303)) 280 37 (some 304)) 280 38 (some 305)), I, L))) (b := ((Nat.beq (K0 306) (kAT .boolean) && decide (¬ (10 : Int32) < 0) && Nat.beq (Int32.toNatClampNeg (10 : Int32)) (Z0 306)) && true)) rfl (by decide +kernel) ?_
  rw [(hF.mk1 (m := 307) rfl (by decide)).1]
  have hF := (hF.mk1 (m := 307) rfl (by decide)).2
  refine Rc.goL mt_1200 0 (f2 := (219, [.ref 280, UU], [], (307, (upR (upR (upR (upR (upR (upR (upR (upR (upR (upR (upR (upR (upR (upR (upR (upR (upR (upR (upR (upR (upR (upR (upR (upR (upR (upR R 280 4 (some 281)) 280 5 (some 282)) 280 6 (some 283)) 280 7 (some 284)) 280 8 (some 285)) 280 9 (some 286)) 280 10 (some 287)) 280 11 (some 288)) 280 12 (some 289)) 280 21 (some 290)) 280 22 (some 291)) 280 23 (some 292)) 280 24 (some 293)) 280 25 (some 294)) 280 26 (some 295)) 280 29 (some 296)) 280 30 (some 297)) 280 31 (some 298)) 280 32 (some 299)) 280 33 (some 300)) 280 34 (some 301)) 280 35 (some 302)) 280 36 (some 303)) 280 37 (some 304)) 280 38 (some 305)) 280 39 (some 306)), I, L))) (b := true) rfl rfl ?_
  have hF := hF.uR (c := 280) (i := 39) (v := some 306) (by decide)
  refine Rc.goL mt_1200 1 (f2 := (222, [.ref 280, UU], [.int (10 : Int32), .ref 280], (307, (upR (upR (upR (upR (upR (upR (upR (upR (upR (upR (upR (upR (upR (upR (upR (upR (upR (upR (upR (upR (upR (upR (upR (upR (upR (upR R 280 4 (some 281)) 280 5 (some 282)) 280 6 (some 283)) 280 7 (some 284)) 280 8 (some 285)) 280 9 (some 286)) 280 10 (some 287)) 280 11 (some 288)) 280 12 (some 289)) 280 21 (some 290)) 280 22 (some 291)) 280 23 (some 292)) 280 24 (some 293)) 280 25 (some 294)) 280 26 (some 295)) 280 29 (some 296)) 280 30 (some 297)) 280 31 (some 298)) 280 32 (some 299)) 280 33 (some 300)) 280 34 (some 301)) 280 35 (some 302)) 280 36 (some 303)) 280 37 (some 304)) 280 38 (some 305)) 280 39 (some 306)), I, L))) (b := true) rfl rfl ?_
  refine Rc.goL mt_1200 0 (f2 := (224, [.ref 280, UU], [.ref 307, .ref 280], nw (307, (upR (upR (upR (upR (upR (upR (upR (upR (upR (upR (upR (upR (upR (upR (upR (upR (upR (upR (upR (upR (upR (upR (upR (upR (upR (upR R 280 4 (some 281)) 280 5 (some 282)) 280 6 (some 283)) 280 7 (some 284)) 280 8 (some 285)) 280 9 (some 286)) 280 10 (some 287)) 280 11 (some 288)) 280 12 (some 289)) 280 21 (some 290)) 280 22 (some 291)) 280 23 (some 292)) 280 24 (some 293)) 280 25 (some 294)) 280 26 (some 295)) 280 29 (some 296)) 280 30 (some 297)) 280 31 (some 298)) 280 32 (some 299)) 280 33 (some 300)) 280 34 (some 301)) 280 35 (some 302)) 280 36 (some 303)) 280 37 (some 304)) 280 38 (some 305)) 280 39 (some 306)), I, L))) (b := ((Nat.beq (K0 307) (kAT .long) && decide (¬ (10 : Int32) < 0) && Nat.beq (Int32.toNatClampNeg (10 : Int32)) (Z0 307)) && true)) rfl (by decide +kernel) ?_
  rw [(hF.mk1 (m := 308) rfl (by decide)).1]
  have hF := (hF.mk1 (m := 308) rfl (by decide)).2
  refine Rc.goL mt_1200 0 (f2 := (227, [.ref 280, UU], [], (308, (upR (upR (upR (upR (upR (upR (upR (upR (upR (upR (upR (upR (upR (upR (upR (upR (upR (upR (upR (upR (upR (upR (upR (upR (upR (upR (upR R 280 4 (some 281)) 280 5 (some 282)) 280 6 (some 283)) 280 7 (some 284)) 280 8 (some 285)) 280 9 (some 286)) 280 10 (some 287)) 280 11 (some 288)) 280 12 (some 289)) 280 21 (some 290)) 280 22 (some 291)) 280 23 (some 292)) 280 24 (some 293)) 280 25 (some 294)) 280 26 (some 295)) 280 29 (some 296)) 280 30 (some 297)) 280 31 (some 298)) 280 32 (some 299)) 280 33 (some 300)) 280 34 (some 301)) 280 35 (some 302)) 280 36 (some 303)) 280 37 (some 304)) 280 38 (some 305)) 280 39 (some 306)) 280 40 (some 307)), I, L))) (b := true) rfl rfl ?_
  have hF := hF.uR (c := 280) (i := 40) (v := some 307) (by decide)
  refine Rc.goL mt_1200 1 (f2 := (230, [.ref 280, UU], [.int (26 : Int32), .ref 280], (308, (upR (upR (upR (upR (upR (upR (upR (upR (upR (upR (upR (upR (upR (upR (upR (upR (upR (upR (upR (upR (upR (upR (upR (upR (upR (upR (upR R 280 4 (some 281)) 280 5 (some 282)) 280 6 (some 283)) 280 7 (some 284)) 280 8 (some 285)) 280 9 (some 286)) 280 10 (some 287)) 280 11 (some 288)) 280 12 (some 289)) 280 21 (some 290)) 280 22 (some 291)) 280 23 (some 292)) 280 24 (some 293)) 280 25 (some 294)) 280 26 (some 295)) 280 29 (some 296)) 280 30 (some 297)) 280 31 (some 298)) 280 32 (some 299)) 280 33 (some 300)) 280 34 (some 301)) 280 35 (some 302)) 280 36 (some 303)) 280 37 (some 304)) 280 38 (some 305)) 280 39 (some 306)) 280 40 (some 307)), I, L))) (b := true) rfl rfl ?_
  refine Rc.goL mt_1200 0 (f2 := (232, [.ref 280, UU], [.ref 308, .ref 280], nw (308, (upR (upR (upR (upR (upR (upR (upR (upR (upR (upR (upR (upR (upR (upR (upR (upR (upR (upR (upR (upR (upR (upR (upR (upR (upR (upR (upR R 280 4 (some 281)) 280 5 (some 282)) 280 6 (some 283)) 280 7 (some 284)) 280 8 (some 285)) 280 9 (some 286)) 280 10 (some 287)) 280 11 (some 288)) 280 12 (some 289)) 280 21 (some 290)) 280 22 (some 291)) 280 23 (some 292)) 280 24 (some 293)) 280 25 (some 294)) 280 26 (some 295)) 280 29 (some 296)) 280 30 (some 297)) 280 31 (some 298)) 280 32 (some 299)) 280 33 (some 300)) 280 34 (some 301)) 280 35 (some 302)) 280 36 (some 303)) 280 37 (some 304)) 280 38 (some 305)) 280 39 (some 306)) 280 40 (some 307)), I, L))) (b := ((Nat.beq (K0 308) (kAT .long) && decide (¬ (26 : Int32) < 0) && Nat.beq (Int32.toNatClampNeg (26 : Int32)) (Z0 308)) && true)) rfl (by decide +kernel) ?_
  rw [(hF.mk1 (m := 309) rfl (by decide)).1]
  have hF := (hF.mk1 (m := 309) rfl (by decide)).2
  refine Rc.goL mt_1200 0 (f2 := (235, [.ref 280, UU], [], (309, (upR (upR (upR (upR (upR (upR (upR (upR (upR (upR (upR (upR (upR (upR (upR (upR (upR (upR (upR (upR (upR (upR (upR (upR (upR (upR (upR (upR R 280 4 (some 281)) 280 5 (some 282)) 280 6 (some 283)) 280 7 (some 284)) 280 8 (some 285)) 280 9 (some 286)) 280 10 (some 287)) 280 11 (some 288)) 280 12 (some 289)) 280 21 (some 290)) 280 22 (some 291)) 280 23 (some 292)) 280 24 (some 293)) 280 25 (some 294)) 280 26 (some 295)) 280 29 (some 296)) 280 30 (some 297)) 280 31 (some 298)) 280 32 (some 299)) 280 33 (some 300)) 280 34 (some 301)) 280 35 (some 302)) 280 36 (some 303)) 280 37 (some 304)) 280 38 (some 305)) 280 39 (some 306)) 280 40 (some 307)) 280 41 (some 308)), I, L))) (b := true) rfl rfl ?_
  have hF := hF.uR (c := 280) (i := 41) (v := some 308) (by decide)
  refine Rc.goL mt_1200 1 (f2 := (239, [.ref 280, UU], [.int (220 : Int32), .ref 280], (309, (upR (upR (upR (upR (upR (upR (upR (upR (upR (upR (upR (upR (upR (upR (upR (upR (upR (upR (upR (upR (upR (upR (upR (upR (upR (upR (upR (upR R 280 4 (some 281)) 280 5 (some 282)) 280 6 (some 283)) 280 7 (some 284)) 280 8 (some 285)) 280 9 (some 286)) 280 10 (some 287)) 280 11 (some 288)) 280 12 (some 289)) 280 21 (some 290)) 280 22 (some 291)) 280 23 (some 292)) 280 24 (some 293)) 280 25 (some 294)) 280 26 (some 295)) 280 29 (some 296)) 280 30 (some 297)) 280 31 (some 298)) 280 32 (some 299)) 280 33 (some 300)) 280 34 (some 301)) 280 35 (some 302)) 280 36 (some 303)) 280 37 (some 304)) 280 38 (some 305)) 280 39 (some 306)) 280 40 (some 307)) 280 41 (some 308)), I, L))) (b := true) rfl rfl ?_
  refine Rc.goL mt_1200 0 (f2 := (241, [.ref 280, UU], [.ref 309, .ref 280], nw (309, (upR (upR (upR (upR (upR (upR (upR (upR (upR (upR (upR (upR (upR (upR (upR (upR (upR (upR (upR (upR (upR (upR (upR (upR (upR (upR (upR (upR R 280 4 (some 281)) 280 5 (some 282)) 280 6 (some 283)) 280 7 (some 284)) 280 8 (some 285)) 280 9 (some 286)) 280 10 (some 287)) 280 11 (some 288)) 280 12 (some 289)) 280 21 (some 290)) 280 22 (some 291)) 280 23 (some 292)) 280 24 (some 293)) 280 25 (some 294)) 280 26 (some 295)) 280 29 (some 296)) 280 30 (some 297)) 280 31 (some 298)) 280 32 (some 299)) 280 33 (some 300)) 280 34 (some 301)) 280 35 (some 302)) 280 36 (some 303)) 280 37 (some 304)) 280 38 (some 305)) 280 39 (some 306)) 280 40 (some 307)) 280 41 (some 308)), I, L))) (b := ((Nat.beq (K0 309) (kAT .long) && decide (¬ (220 : Int32) < 0) && Nat.beq (Int32.toNatClampNeg (220 : Int32)) (Z0 309)) && true)) rfl (by decide +kernel) ?_
  rw [(hF.mk1 (m := 310) rfl (by decide)).1]
  have hF := (hF.mk1 (m := 310) rfl (by decide)).2
  refine Rc.goL mt_1200 0 (f2 := (244, [.ref 280, UU], [], (310, (upR (upR (upR (upR (upR (upR (upR (upR (upR (upR (upR (upR (upR (upR (upR (upR (upR (upR (upR (upR (upR (upR (upR (upR (upR (upR (upR (upR (upR R 280 4 (some 281)) 280 5 (some 282)) 280 6 (some 283)) 280 7 (some 284)) 280 8 (some 285)) 280 9 (some 286)) 280 10 (some 287)) 280 11 (some 288)) 280 12 (some 289)) 280 21 (some 290)) 280 22 (some 291)) 280 23 (some 292)) 280 24 (some 293)) 280 25 (some 294)) 280 26 (some 295)) 280 29 (some 296)) 280 30 (some 297)) 280 31 (some 298)) 280 32 (some 299)) 280 33 (some 300)) 280 34 (some 301)) 280 35 (some 302)) 280 36 (some 303)) 280 37 (some 304)) 280 38 (some 305)) 280 39 (some 306)) 280 40 (some 307)) 280 41 (some 308)) 280 42 (some 309)), I, L))) (b := true) rfl rfl ?_
  have hF := hF.uR (c := 280) (i := 42) (v := some 309) (by decide)
  refine Rc.goL mt_1200 1 (f2 := (248, [.ref 280, UU], [.int (300 : Int32), .ref 280], (310, (upR (upR (upR (upR (upR (upR (upR (upR (upR (upR (upR (upR (upR (upR (upR (upR (upR (upR (upR (upR (upR (upR (upR (upR (upR (upR (upR (upR (upR R 280 4 (some 281)) 280 5 (some 282)) 280 6 (some 283)) 280 7 (some 284)) 280 8 (some 285)) 280 9 (some 286)) 280 10 (some 287)) 280 11 (some 288)) 280 12 (some 289)) 280 21 (some 290)) 280 22 (some 291)) 280 23 (some 292)) 280 24 (some 293)) 280 25 (some 294)) 280 26 (some 295)) 280 29 (some 296)) 280 30 (some 297)) 280 31 (some 298)) 280 32 (some 299)) 280 33 (some 300)) 280 34 (some 301)) 280 35 (some 302)) 280 36 (some 303)) 280 37 (some 304)) 280 38 (some 305)) 280 39 (some 306)) 280 40 (some 307)) 280 41 (some 308)) 280 42 (some 309)), I, L))) (b := true) rfl rfl ?_
  refine Rc.goL mt_1200 0 (f2 := (250, [.ref 280, UU], [.ref 310, .ref 280], nw (310, (upR (upR (upR (upR (upR (upR (upR (upR (upR (upR (upR (upR (upR (upR (upR (upR (upR (upR (upR (upR (upR (upR (upR (upR (upR (upR (upR (upR (upR R 280 4 (some 281)) 280 5 (some 282)) 280 6 (some 283)) 280 7 (some 284)) 280 8 (some 285)) 280 9 (some 286)) 280 10 (some 287)) 280 11 (some 288)) 280 12 (some 289)) 280 21 (some 290)) 280 22 (some 291)) 280 23 (some 292)) 280 24 (some 293)) 280 25 (some 294)) 280 26 (some 295)) 280 29 (some 296)) 280 30 (some 297)) 280 31 (some 298)) 280 32 (some 299)) 280 33 (some 300)) 280 34 (some 301)) 280 35 (some 302)) 280 36 (some 303)) 280 37 (some 304)) 280 38 (some 305)) 280 39 (some 306)) 280 40 (some 307)) 280 41 (some 308)) 280 42 (some 309)), I, L))) (b := ((Nat.beq (K0 310) (kAT .int) && decide (¬ (300 : Int32) < 0) && Nat.beq (Int32.toNatClampNeg (300 : Int32)) (Z0 310)) && true)) rfl (by decide +kernel) ?_
  rw [(hF.mk1 (m := 311) rfl (by decide)).1]
  have hF := (hF.mk1 (m := 311) rfl (by decide)).2
  refine Rc.goL mt_1200 0 (f2 := (253, [.ref 280, UU], [], (311, (upR (upR (upR (upR (upR (upR (upR (upR (upR (upR (upR (upR (upR (upR (upR (upR (upR (upR (upR (upR (upR (upR (upR (upR (upR (upR (upR (upR (upR (upR R 280 4 (some 281)) 280 5 (some 282)) 280 6 (some 283)) 280 7 (some 284)) 280 8 (some 285)) 280 9 (some 286)) 280 10 (some 287)) 280 11 (some 288)) 280 12 (some 289)) 280 21 (some 290)) 280 22 (some 291)) 280 23 (some 292)) 280 24 (some 293)) 280 25 (some 294)) 280 26 (some 295)) 280 29 (some 296)) 280 30 (some 297)) 280 31 (some 298)) 280 32 (some 299)) 280 33 (some 300)) 280 34 (some 301)) 280 35 (some 302)) 280 36 (some 303)) 280 37 (some 304)) 280 38 (some 305)) 280 39 (some 306)) 280 40 (some 307)) 280 41 (some 308)) 280 42 (some 309)) 280 44 (some 310)), I, L))) (b := true) rfl rfl ?_
  have hF := hF.uR (c := 280) (i := 44) (v := some 310) (by decide)
  refine Rc.goL mt_1200 1 (f2 := (257, [.ref 280, UU], [.int (300 : Int32), .ref 280], (311, (upR (upR (upR (upR (upR (upR (upR (upR (upR (upR (upR (upR (upR (upR (upR (upR (upR (upR (upR (upR (upR (upR (upR (upR (upR (upR (upR (upR (upR (upR R 280 4 (some 281)) 280 5 (some 282)) 280 6 (some 283)) 280 7 (some 284)) 280 8 (some 285)) 280 9 (some 286)) 280 10 (some 287)) 280 11 (some 288)) 280 12 (some 289)) 280 21 (some 290)) 280 22 (some 291)) 280 23 (some 292)) 280 24 (some 293)) 280 25 (some 294)) 280 26 (some 295)) 280 29 (some 296)) 280 30 (some 297)) 280 31 (some 298)) 280 32 (some 299)) 280 33 (some 300)) 280 34 (some 301)) 280 35 (some 302)) 280 36 (some 303)) 280 37 (some 304)) 280 38 (some 305)) 280 39 (some 306)) 280 40 (some 307)) 280 41 (some 308)) 280 42 (some 309)) 280 44 (some 310)), I, L))) (b := true) rfl rfl ?_
  refine Rc.goL mt_1200 0 (f2 := (259, [.ref 280, UU], [.ref 311, .ref 280], nw (311, (upR (upR (upR (upR (upR (upR (upR (upR (upR (upR (upR (upR (upR (upR (upR (upR (upR (upR (upR (upR (upR (upR (upR (upR (upR (upR (upR (upR (upR (upR R 280 4 (some 281)) 280 5 (some 282)) 280 6 (some 283)) 280 7 (some 284)) 280 8 (some 285)) 280 9 (some 286)) 280 10 (some 287)) 280 11 (some 288)) 280 12 (some 289)) 280 21 (some 290)) 280 22 (some 291)) 280 23 (some 292)) 280 24 (some 293)) 280 25 (some 294)) 280 26 (some 295)) 280 29 (some 296)) 280 30 (some 297)) 280 31 (some 298)) 280 32 (some 299)) 280 33 (some 300)) 280 34 (some 301)) 280 35 (some 302)) 280 36 (some 303)) 280 37 (some 304)) 280 38 (some 305)) 280 39 (some 306)) 280 40 (some 307)) 280 41 (some 308)) 280 42 (some 309)) 280 44 (some 310)), I, L))) (b := ((Nat.beq (K0 311) (kAT .int) && decide (¬ (300 : Int32) < 0) && Nat.beq (Int32.toNatClampNeg (300 : Int32)) (Z0 311)) && true)) rfl (by decide +kernel) ?_
  rw [(hF.mk1 (m := 312) rfl (by decide)).1]
  have hF := (hF.mk1 (m := 312) rfl (by decide)).2
  refine Rc.goL mt_1200 0 (f2 := (262, [.ref 280, UU], [], (312, (upR (upR (upR (upR (upR (upR (upR (upR (upR (upR (upR (upR (upR (upR (upR (upR (upR (upR (upR (upR (upR (upR (upR (upR (upR (upR (upR (upR (upR (upR (upR R 280 4 (some 281)) 280 5 (some 282)) 280 6 (some 283)) 280 7 (some 284)) 280 8 (some 285)) 280 9 (some 286)) 280 10 (some 287)) 280 11 (some 288)) 280 12 (some 289)) 280 21 (some 290)) 280 22 (some 291)) 280 23 (some 292)) 280 24 (some 293)) 280 25 (some 294)) 280 26 (some 295)) 280 29 (some 296)) 280 30 (some 297)) 280 31 (some 298)) 280 32 (some 299)) 280 33 (some 300)) 280 34 (some 301)) 280 35 (some 302)) 280 36 (some 303)) 280 37 (some 304)) 280 38 (some 305)) 280 39 (some 306)) 280 40 (some 307)) 280 41 (some 308)) 280 42 (some 309)) 280 44 (some 310)) 280 45 (some 311)), I, L))) (b := true) rfl rfl ?_
  have hF := hF.uR (c := 280) (i := 45) (v := some 311) (by decide)
  refine Rc.goL mt_1200 1 (f2 := (266, [.ref 280, UU], [.int (300 : Int32), .ref 280], (312, (upR (upR (upR (upR (upR (upR (upR (upR (upR (upR (upR (upR (upR (upR (upR (upR (upR (upR (upR (upR (upR (upR (upR (upR (upR (upR (upR (upR (upR (upR (upR R 280 4 (some 281)) 280 5 (some 282)) 280 6 (some 283)) 280 7 (some 284)) 280 8 (some 285)) 280 9 (some 286)) 280 10 (some 287)) 280 11 (some 288)) 280 12 (some 289)) 280 21 (some 290)) 280 22 (some 291)) 280 23 (some 292)) 280 24 (some 293)) 280 25 (some 294)) 280 26 (some 295)) 280 29 (some 296)) 280 30 (some 297)) 280 31 (some 298)) 280 32 (some 299)) 280 33 (some 300)) 280 34 (some 301)) 280 35 (some 302)) 280 36 (some 303)) 280 37 (some 304)) 280 38 (some 305)) 280 39 (some 306)) 280 40 (some 307)) 280 41 (some 308)) 280 42 (some 309)) 280 44 (some 310)) 280 45 (some 311)), I, L))) (b := true) rfl rfl ?_
  refine Rc.goL mt_1200 0 (f2 := (268, [.ref 280, UU], [.ref 312, .ref 280], nw (312, (upR (upR (upR (upR (upR (upR (upR (upR (upR (upR (upR (upR (upR (upR (upR (upR (upR (upR (upR (upR (upR (upR (upR (upR (upR (upR (upR (upR (upR (upR (upR R 280 4 (some 281)) 280 5 (some 282)) 280 6 (some 283)) 280 7 (some 284)) 280 8 (some 285)) 280 9 (some 286)) 280 10 (some 287)) 280 11 (some 288)) 280 12 (some 289)) 280 21 (some 290)) 280 22 (some 291)) 280 23 (some 292)) 280 24 (some 293)) 280 25 (some 294)) 280 26 (some 295)) 280 29 (some 296)) 280 30 (some 297)) 280 31 (some 298)) 280 32 (some 299)) 280 33 (some 300)) 280 34 (some 301)) 280 35 (some 302)) 280 36 (some 303)) 280 37 (some 304)) 280 38 (some 305)) 280 39 (some 306)) 280 40 (some 307)) 280 41 (some 308)) 280 42 (some 309)) 280 44 (some 310)) 280 45 (some 311)), I, L))) (b := ((Nat.beq (K0 312) (kAT .int) && decide (¬ (300 : Int32) < 0) && Nat.beq (Int32.toNatClampNeg (300 : Int32)) (Z0 312)) && true)) rfl (by decide +kernel) ?_
  rw [(hF.mk1 (m := 313) rfl (by decide)).1]
  have hF := (hF.mk1 (m := 313) rfl (by decide)).2
  refine Rc.goL mt_1200 0 (f2 := (271, [.ref 280, UU], [], (313, (upR (upR (upR (upR (upR (upR (upR (upR (upR (upR (upR (upR (upR (upR (upR (upR (upR (upR (upR (upR (upR (upR (upR (upR (upR (upR (upR (upR (upR (upR (upR (upR R 280 4 (some 281)) 280 5 (some 282)) 280 6 (some 283)) 280 7 (some 284)) 280 8 (some 285)) 280 9 (some 286)) 280 10 (some 287)) 280 11 (some 288)) 280 12 (some 289)) 280 21 (some 290)) 280 22 (some 291)) 280 23 (some 292)) 280 24 (some 293)) 280 25 (some 294)) 280 26 (some 295)) 280 29 (some 296)) 280 30 (some 297)) 280 31 (some 298)) 280 32 (some 299)) 280 33 (some 300)) 280 34 (some 301)) 280 35 (some 302)) 280 36 (some 303)) 280 37 (some 304)) 280 38 (some 305)) 280 39 (some 306)) 280 40 (some 307)) 280 41 (some 308)) 280 42 (some 309)) 280 44 (some 310)) 280 45 (some 311)) 280 46 (some 312)), I, L))) (b := true) rfl rfl ?_
  have hF := hF.uR (c := 280) (i := 46) (v := some 312) (by decide)
  refine Rc.goL mt_1200 1 (f2 := (275, [.ref 280, UU], [.int (300 : Int32), .ref 280], (313, (upR (upR (upR (upR (upR (upR (upR (upR (upR (upR (upR (upR (upR (upR (upR (upR (upR (upR (upR (upR (upR (upR (upR (upR (upR (upR (upR (upR (upR (upR (upR (upR R 280 4 (some 281)) 280 5 (some 282)) 280 6 (some 283)) 280 7 (some 284)) 280 8 (some 285)) 280 9 (some 286)) 280 10 (some 287)) 280 11 (some 288)) 280 12 (some 289)) 280 21 (some 290)) 280 22 (some 291)) 280 23 (some 292)) 280 24 (some 293)) 280 25 (some 294)) 280 26 (some 295)) 280 29 (some 296)) 280 30 (some 297)) 280 31 (some 298)) 280 32 (some 299)) 280 33 (some 300)) 280 34 (some 301)) 280 35 (some 302)) 280 36 (some 303)) 280 37 (some 304)) 280 38 (some 305)) 280 39 (some 306)) 280 40 (some 307)) 280 41 (some 308)) 280 42 (some 309)) 280 44 (some 310)) 280 45 (some 311)) 280 46 (some 312)), I, L))) (b := true) rfl rfl ?_
  refine Rc.goL mt_1200 0 (f2 := (277, [.ref 280, UU], [.ref 313, .ref 280], nw (313, (upR (upR (upR (upR (upR (upR (upR (upR (upR (upR (upR (upR (upR (upR (upR (upR (upR (upR (upR (upR (upR (upR (upR (upR (upR (upR (upR (upR (upR (upR (upR (upR R 280 4 (some 281)) 280 5 (some 282)) 280 6 (some 283)) 280 7 (some 284)) 280 8 (some 285)) 280 9 (some 286)) 280 10 (some 287)) 280 11 (some 288)) 280 12 (some 289)) 280 21 (some 290)) 280 22 (some 291)) 280 23 (some 292)) 280 24 (some 293)) 280 25 (some 294)) 280 26 (some 295)) 280 29 (some 296)) 280 30 (some 297)) 280 31 (some 298)) 280 32 (some 299)) 280 33 (some 300)) 280 34 (some 301)) 280 35 (some 302)) 280 36 (some 303)) 280 37 (some 304)) 280 38 (some 305)) 280 39 (some 306)) 280 40 (some 307)) 280 41 (some 308)) 280 42 (some 309)) 280 44 (some 310)) 280 45 (some 311)) 280 46 (some 312)), I, L))) (b := ((Nat.beq (K0 313) (kAT .int) && decide (¬ (300 : Int32) < 0) && Nat.beq (Int32.toNatClampNeg (300 : Int32)) (Z0 313)) && true)) rfl (by decide +kernel) ?_
  rw [(hF.mk1 (m := 314) rfl (by decide)).1]
  have hF := (hF.mk1 (m := 314) rfl (by decide)).2
  refine Rc.goL mt_1200 0 (f2 := (280, [.ref 280, UU], [], (314, (upR (upR (upR (upR (upR (upR (upR (upR (upR (upR (upR (upR (upR (upR (upR (upR (upR (upR (upR (upR (upR (upR (upR (upR (upR (upR (upR (upR (upR (upR (upR (upR (upR R 280 4 (some 281)) 280 5 (some 282)) 280 6 (some 283)) 280 7 (some 284)) 280 8 (some 285)) 280 9 (some 286)) 280 10 (some 287)) 280 11 (some 288)) 280 12 (some 289)) 280 21 (some 290)) 280 22 (some 291)) 280 23 (some 292)) 280 24 (some 293)) 280 25 (some 294)) 280 26 (some 295)) 280 29 (some 296)) 280 30 (some 297)) 280 31 (some 298)) 280 32 (some 299)) 280 33 (some 300)) 280 34 (some 301)) 280 35 (some 302)) 280 36 (some 303)) 280 37 (some 304)) 280 38 (some 305)) 280 39 (some 306)) 280 40 (some 307)) 280 41 (some 308)) 280 42 (some 309)) 280 44 (some 310)) 280 45 (some 311)) 280 46 (some 312)) 280 47 (some 313)), I, L))) (b := true) rfl rfl ?_
  have hF := hF.uR (c := 280) (i := 47) (v := some 313) (by decide)
  refine Rc.goL mt_1200 1 (f2 := (284, [.ref 280, UU], [.int (300 : Int32), .ref 280], (314, (upR (upR (upR (upR (upR (upR (upR (upR (upR (upR (upR (upR (upR (upR (upR (upR (upR (upR (upR (upR (upR (upR (upR (upR (upR (upR (upR (upR (upR (upR (upR (upR (upR R 280 4 (some 281)) 280 5 (some 282)) 280 6 (some 283)) 280 7 (some 284)) 280 8 (some 285)) 280 9 (some 286)) 280 10 (some 287)) 280 11 (some 288)) 280 12 (some 289)) 280 21 (some 290)) 280 22 (some 291)) 280 23 (some 292)) 280 24 (some 293)) 280 25 (some 294)) 280 26 (some 295)) 280 29 (some 296)) 280 30 (some 297)) 280 31 (some 298)) 280 32 (some 299)) 280 33 (some 300)) 280 34 (some 301)) 280 35 (some 302)) 280 36 (some 303)) 280 37 (some 304)) 280 38 (some 305)) 280 39 (some 306)) 280 40 (some 307)) 280 41 (some 308)) 280 42 (some 309)) 280 44 (some 310)) 280 45 (some 311)) 280 46 (some 312)) 280 47 (some 313)), I, L))) (b := true) rfl rfl ?_
  refine Rc.goL mt_1200 0 (f2 := (286, [.ref 280, UU], [.ref 314, .ref 280], nw (314, (upR (upR (upR (upR (upR (upR (upR (upR (upR (upR (upR (upR (upR (upR (upR (upR (upR (upR (upR (upR (upR (upR (upR (upR (upR (upR (upR (upR (upR (upR (upR (upR (upR R 280 4 (some 281)) 280 5 (some 282)) 280 6 (some 283)) 280 7 (some 284)) 280 8 (some 285)) 280 9 (some 286)) 280 10 (some 287)) 280 11 (some 288)) 280 12 (some 289)) 280 21 (some 290)) 280 22 (some 291)) 280 23 (some 292)) 280 24 (some 293)) 280 25 (some 294)) 280 26 (some 295)) 280 29 (some 296)) 280 30 (some 297)) 280 31 (some 298)) 280 32 (some 299)) 280 33 (some 300)) 280 34 (some 301)) 280 35 (some 302)) 280 36 (some 303)) 280 37 (some 304)) 280 38 (some 305)) 280 39 (some 306)) 280 40 (some 307)) 280 41 (some 308)) 280 42 (some 309)) 280 44 (some 310)) 280 45 (some 311)) 280 46 (some 312)) 280 47 (some 313)), I, L))) (b := ((Nat.beq (K0 314) (kAT .int) && decide (¬ (300 : Int32) < 0) && Nat.beq (Int32.toNatClampNeg (300 : Int32)) (Z0 314)) && true)) rfl (by decide +kernel) ?_
  rw [(hF.mk1 (m := 315) rfl (by decide)).1]
  have hF := (hF.mk1 (m := 315) rfl (by decide)).2
  refine Rc.goL mt_1200 0 (f2 := (289, [.ref 280, UU], [], (315, (upR (upR (upR (upR (upR (upR (upR (upR (upR (upR (upR (upR (upR (upR (upR (upR (upR (upR (upR (upR (upR (upR (upR (upR (upR (upR (upR (upR (upR (upR (upR (upR (upR (upR R 280 4 (some 281)) 280 5 (some 282)) 280 6 (some 283)) 280 7 (some 284)) 280 8 (some 285)) 280 9 (some 286)) 280 10 (some 287)) 280 11 (some 288)) 280 12 (some 289)) 280 21 (some 290)) 280 22 (some 291)) 280 23 (some 292)) 280 24 (some 293)) 280 25 (some 294)) 280 26 (some 295)) 280 29 (some 296)) 280 30 (some 297)) 280 31 (some 298)) 280 32 (some 299)) 280 33 (some 300)) 280 34 (some 301)) 280 35 (some 302)) 280 36 (some 303)) 280 37 (some 304)) 280 38 (some 305)) 280 39 (some 306)) 280 40 (some 307)) 280 41 (some 308)) 280 42 (some 309)) 280 44 (some 310)) 280 45 (some 311)) 280 46 (some 312)) 280 47 (some 313)) 280 48 (some 314)), I, L))) (b := true) rfl rfl ?_
  have hF := hF.uR (c := 280) (i := 48) (v := some 314) (by decide)
  refine Rc.goL mt_1200 1 (f2 := (293, [.ref 280, UU], [.int (300 : Int32), .ref 280], (315, (upR (upR (upR (upR (upR (upR (upR (upR (upR (upR (upR (upR (upR (upR (upR (upR (upR (upR (upR (upR (upR (upR (upR (upR (upR (upR (upR (upR (upR (upR (upR (upR (upR (upR R 280 4 (some 281)) 280 5 (some 282)) 280 6 (some 283)) 280 7 (some 284)) 280 8 (some 285)) 280 9 (some 286)) 280 10 (some 287)) 280 11 (some 288)) 280 12 (some 289)) 280 21 (some 290)) 280 22 (some 291)) 280 23 (some 292)) 280 24 (some 293)) 280 25 (some 294)) 280 26 (some 295)) 280 29 (some 296)) 280 30 (some 297)) 280 31 (some 298)) 280 32 (some 299)) 280 33 (some 300)) 280 34 (some 301)) 280 35 (some 302)) 280 36 (some 303)) 280 37 (some 304)) 280 38 (some 305)) 280 39 (some 306)) 280 40 (some 307)) 280 41 (some 308)) 280 42 (some 309)) 280 44 (some 310)) 280 45 (some 311)) 280 46 (some 312)) 280 47 (some 313)) 280 48 (some 314)), I, L))) (b := true) rfl rfl ?_
  refine Rc.goL mt_1200 0 (f2 := (295, [.ref 280, UU], [.ref 315, .ref 280], nw (315, (upR (upR (upR (upR (upR (upR (upR (upR (upR (upR (upR (upR (upR (upR (upR (upR (upR (upR (upR (upR (upR (upR (upR (upR (upR (upR (upR (upR (upR (upR (upR (upR (upR (upR R 280 4 (some 281)) 280 5 (some 282)) 280 6 (some 283)) 280 7 (some 284)) 280 8 (some 285)) 280 9 (some 286)) 280 10 (some 287)) 280 11 (some 288)) 280 12 (some 289)) 280 21 (some 290)) 280 22 (some 291)) 280 23 (some 292)) 280 24 (some 293)) 280 25 (some 294)) 280 26 (some 295)) 280 29 (some 296)) 280 30 (some 297)) 280 31 (some 298)) 280 32 (some 299)) 280 33 (some 300)) 280 34 (some 301)) 280 35 (some 302)) 280 36 (some 303)) 280 37 (some 304)) 280 38 (some 305)) 280 39 (some 306)) 280 40 (some 307)) 280 41 (some 308)) 280 42 (some 309)) 280 44 (some 310)) 280 45 (some 311)) 280 46 (some 312)) 280 47 (some 313)) 280 48 (some 314)), I, L))) (b := ((Nat.beq (K0 315) (kAT .int) && decide (¬ (300 : Int32) < 0) && Nat.beq (Int32.toNatClampNeg (300 : Int32)) (Z0 315)) && true)) rfl (by decide +kernel) ?_
  rw [(hF.mk1 (m := 316) rfl (by decide)).1]
  have hF := (hF.mk1 (m := 316) rfl (by decide)).2
  refine Rc.goL mt_1200 0 (f2 := (298, [.ref 280, UU], [], (316, (upR (upR (upR (upR (upR (upR (upR (upR (upR (upR (upR (upR (upR (upR (upR (upR (upR (upR (upR (upR (upR (upR (upR (upR (upR (upR (upR (upR (upR (upR (upR (upR (upR (upR (upR R 280 4 (some 281)) 280 5 (some 282)) 280 6 (some 283)) 280 7 (some 284)) 280 8 (some 285)) 280 9 (some 286)) 280 10 (some 287)) 280 11 (some 288)) 280 12 (some 289)) 280 21 (some 290)) 280 22 (some 291)) 280 23 (some 292)) 280 24 (some 293)) 280 25 (some 294)) 280 26 (some 295)) 280 29 (some 296)) 280 30 (some 297)) 280 31 (some 298)) 280 32 (some 299)) 280 33 (some 300)) 280 34 (some 301)) 280 35 (some 302)) 280 36 (some 303)) 280 37 (some 304)) 280 38 (some 305)) 280 39 (some 306)) 280 40 (some 307)) 280 41 (some 308)) 280 42 (some 309)) 280 44 (some 310)) 280 45 (some 311)) 280 46 (some 312)) 280 47 (some 313)) 280 48 (some 314)) 280 49 (some 315)), I, L))) (b := true) rfl rfl ?_
  have hF := hF.uR (c := 280) (i := 49) (v := some 315) (by decide)
  refine Rc.goL mt_1200 1 (f2 := (302, [.ref 280, UU], [.int (300 : Int32), .ref 280], (316, (upR (upR (upR (upR (upR (upR (upR (upR (upR (upR (upR (upR (upR (upR (upR (upR (upR (upR (upR (upR (upR (upR (upR (upR (upR (upR (upR (upR (upR (upR (upR (upR (upR (upR (upR R 280 4 (some 281)) 280 5 (some 282)) 280 6 (some 283)) 280 7 (some 284)) 280 8 (some 285)) 280 9 (some 286)) 280 10 (some 287)) 280 11 (some 288)) 280 12 (some 289)) 280 21 (some 290)) 280 22 (some 291)) 280 23 (some 292)) 280 24 (some 293)) 280 25 (some 294)) 280 26 (some 295)) 280 29 (some 296)) 280 30 (some 297)) 280 31 (some 298)) 280 32 (some 299)) 280 33 (some 300)) 280 34 (some 301)) 280 35 (some 302)) 280 36 (some 303)) 280 37 (some 304)) 280 38 (some 305)) 280 39 (some 306)) 280 40 (some 307)) 280 41 (some 308)) 280 42 (some 309)) 280 44 (some 310)) 280 45 (some 311)) 280 46 (some 312)) 280 47 (some 313)) 280 48 (some 314)) 280 49 (some 315)), I, L))) (b := true) rfl rfl ?_
  refine Rc.goL mt_1200 0 (f2 := (304, [.ref 280, UU], [.ref 316, .ref 280], nw (316, (upR (upR (upR (upR (upR (upR (upR (upR (upR (upR (upR (upR (upR (upR (upR (upR (upR (upR (upR (upR (upR (upR (upR (upR (upR (upR (upR (upR (upR (upR (upR (upR (upR (upR (upR R 280 4 (some 281)) 280 5 (some 282)) 280 6 (some 283)) 280 7 (some 284)) 280 8 (some 285)) 280 9 (some 286)) 280 10 (some 287)) 280 11 (some 288)) 280 12 (some 289)) 280 21 (some 290)) 280 22 (some 291)) 280 23 (some 292)) 280 24 (some 293)) 280 25 (some 294)) 280 26 (some 295)) 280 29 (some 296)) 280 30 (some 297)) 280 31 (some 298)) 280 32 (some 299)) 280 33 (some 300)) 280 34 (some 301)) 280 35 (some 302)) 280 36 (some 303)) 280 37 (some 304)) 280 38 (some 305)) 280 39 (some 306)) 280 40 (some 307)) 280 41 (some 308)) 280 42 (some 309)) 280 44 (some 310)) 280 45 (some 311)) 280 46 (some 312)) 280 47 (some 313)) 280 48 (some 314)) 280 49 (some 315)), I, L))) (b := ((Nat.beq (K0 316) (kAT .int) && decide (¬ (300 : Int32) < 0) && Nat.beq (Int32.toNatClampNeg (300 : Int32)) (Z0 316)) && true)) rfl (by decide +kernel) ?_
  rw [(hF.mk1 (m := 317) rfl (by decide)).1]
  have hF := (hF.mk1 (m := 317) rfl (by decide)).2
  refine Rc.goL mt_1200 0 (f2 := (307, [.ref 280, UU], [], (317, (upR (upR (upR (upR (upR (upR (upR (upR (upR (upR (upR (upR (upR (upR (upR (upR (upR (upR (upR (upR (upR (upR (upR (upR (upR (upR (upR (upR (upR (upR (upR (upR (upR (upR (upR (upR R 280 4 (some 281)) 280 5 (some 282)) 280 6 (some 283)) 280 7 (some 284)) 280 8 (some 285)) 280 9 (some 286)) 280 10 (some 287)) 280 11 (some 288)) 280 12 (some 289)) 280 21 (some 290)) 280 22 (some 291)) 280 23 (some 292)) 280 24 (some 293)) 280 25 (some 294)) 280 26 (some 295)) 280 29 (some 296)) 280 30 (some 297)) 280 31 (some 298)) 280 32 (some 299)) 280 33 (some 300)) 280 34 (some 301)) 280 35 (some 302)) 280 36 (some 303)) 280 37 (some 304)) 280 38 (some 305)) 280 39 (some 306)) 280 40 (some 307)) 280 41 (some 308)) 280 42 (some 309)) 280 44 (some 310)) 280 45 (some 311)) 280 46 (some 312)) 280 47 (some 313)) 280 48 (some 314)) 280 49 (some 315)) 280 50 (some 316)), I, L))) (b := true) rfl rfl ?_
  have hF := hF.uR (c := 280) (i := 50) (v := some 316) (by decide)
  refine Rc.goL mt_1200 1 (f2 := (311, [.ref 280, UU], [.int (300 : Int32), .ref 280], (317, (upR (upR (upR (upR (upR (upR (upR (upR (upR (upR (upR (upR (upR (upR (upR (upR (upR (upR (upR (upR (upR (upR (upR (upR (upR (upR (upR (upR (upR (upR (upR (upR (upR (upR (upR (upR R 280 4 (some 281)) 280 5 (some 282)) 280 6 (some 283)) 280 7 (some 284)) 280 8 (some 285)) 280 9 (some 286)) 280 10 (some 287)) 280 11 (some 288)) 280 12 (some 289)) 280 21 (some 290)) 280 22 (some 291)) 280 23 (some 292)) 280 24 (some 293)) 280 25 (some 294)) 280 26 (some 295)) 280 29 (some 296)) 280 30 (some 297)) 280 31 (some 298)) 280 32 (some 299)) 280 33 (some 300)) 280 34 (some 301)) 280 35 (some 302)) 280 36 (some 303)) 280 37 (some 304)) 280 38 (some 305)) 280 39 (some 306)) 280 40 (some 307)) 280 41 (some 308)) 280 42 (some 309)) 280 44 (some 310)) 280 45 (some 311)) 280 46 (some 312)) 280 47 (some 313)) 280 48 (some 314)) 280 49 (some 315)) 280 50 (some 316)), I, L))) (b := true) rfl rfl ?_
  refine Rc.goL mt_1200 0 (f2 := (313, [.ref 280, UU], [.ref 317, .ref 280], nw (317, (upR (upR (upR (upR (upR (upR (upR (upR (upR (upR (upR (upR (upR (upR (upR (upR (upR (upR (upR (upR (upR (upR (upR (upR (upR (upR (upR (upR (upR (upR (upR (upR (upR (upR (upR (upR R 280 4 (some 281)) 280 5 (some 282)) 280 6 (some 283)) 280 7 (some 284)) 280 8 (some 285)) 280 9 (some 286)) 280 10 (some 287)) 280 11 (some 288)) 280 12 (some 289)) 280 21 (some 290)) 280 22 (some 291)) 280 23 (some 292)) 280 24 (some 293)) 280 25 (some 294)) 280 26 (some 295)) 280 29 (some 296)) 280 30 (some 297)) 280 31 (some 298)) 280 32 (some 299)) 280 33 (some 300)) 280 34 (some 301)) 280 35 (some 302)) 280 36 (some 303)) 280 37 (some 304)) 280 38 (some 305)) 280 39 (some 306)) 280 40 (some 307)) 280 41 (some 308)) 280 42 (some 309)) 280 44 (some 310)) 280 45 (some 311)) 280 46 (some 312)) 280 47 (some 313)) 280 48 (some 314)) 280 49 (some 315)) 280 50 (some 316)), I, L))) (b := ((Nat.beq (K0 317) (kAT .int) && decide (¬ (300 : Int32) < 0) && Nat.beq (Int32.toNatClampNeg (300 : Int32)) (Z0 317)) && true)) rfl (by decide +kernel) ?_
  rw [(hF.mk1 (m := 318) rfl (by decide)).1]
  have hF := (hF.mk1 (m := 318) rfl (by decide)).2
  refine Rc.goL mt_1200 0 (f2 := (316, [.ref 280, UU], [], (318, (upR (upR (upR (upR (upR (upR (upR (upR (upR (upR (upR (upR (upR (upR (upR (upR (upR (upR (upR (upR (upR (upR (upR (upR (upR (upR (upR (upR (upR (upR (upR (upR (upR (upR (upR (upR (upR R 280 4 (some 281)) 280 5 (some 282)) 280 6 (some 283)) 280 7 (some 284)) 280 8 (some 285)) 280 9 (some 286)) 280 10 (some 287)) 280 11 (some 288)) 280 12 (some 289)) 280 21 (some 290)) 280 22 (some 291)) 280 23 (some 292)) 280 24 (some 293)) 280 25 (some 294)) 280 26 (some 295)) 280 29 (some 296)) 280 30 (some 297)) 280 31 (some 298)) 280 32 (some 299)) 280 33 (some 300)) 280 34 (some 301)) 280 35 (some 302)) 280 36 (some 303)) 280 37 (some 304)) 280 38 (some 305)) 280 39 (some 306)) 280 40 (some 307)) 280 41 (some 308)) 280 42 (some 309)) 280 44 (some 310)) 280 45 (some 311)) 280 46 (some 312)) 280 47 (some 313)) 280 48 (some 314)) 280 49 (some 315)) 280 50 (some 316)) 280 51 (some 317)), I, L))) (b := true) rfl rfl ?_
  have hF := hF.uR (c := 280) (i := 51) (v := some 317) (by decide)
  refine Rc.goL mt_1200 1 (f2 := (320, [.ref 280, UU], [.int (520 : Int32), .ref 280], (318, (upR (upR (upR (upR (upR (upR (upR (upR (upR (upR (upR (upR (upR (upR (upR (upR (upR (upR (upR (upR (upR (upR (upR (upR (upR (upR (upR (upR (upR (upR (upR (upR (upR (upR (upR (upR (upR R 280 4 (some 281)) 280 5 (some 282)) 280 6 (some 283)) 280 7 (some 284)) 280 8 (some 285)) 280 9 (some 286)) 280 10 (some 287)) 280 11 (some 288)) 280 12 (some 289)) 280 21 (some 290)) 280 22 (some 291)) 280 23 (some 292)) 280 24 (some 293)) 280 25 (some 294)) 280 26 (some 295)) 280 29 (some 296)) 280 30 (some 297)) 280 31 (some 298)) 280 32 (some 299)) 280 33 (some 300)) 280 34 (some 301)) 280 35 (some 302)) 280 36 (some 303)) 280 37 (some 304)) 280 38 (some 305)) 280 39 (some 306)) 280 40 (some 307)) 280 41 (some 308)) 280 42 (some 309)) 280 44 (some 310)) 280 45 (some 311)) 280 46 (some 312)) 280 47 (some 313)) 280 48 (some 314)) 280 49 (some 315)) 280 50 (some 316)) 280 51 (some 317)), I, L))) (b := true) rfl rfl ?_
  refine Rc.goL mt_1200 0 (f2 := (322, [.ref 280, UU], [.ref 318, .ref 280], nw (318, (upR (upR (upR (upR (upR (upR (upR (upR (upR (upR (upR (upR (upR (upR (upR (upR (upR (upR (upR (upR (upR (upR (upR (upR (upR (upR (upR (upR (upR (upR (upR (upR (upR (upR (upR (upR (upR R 280 4 (some 281)) 280 5 (some 282)) 280 6 (some 283)) 280 7 (some 284)) 280 8 (some 285)) 280 9 (some 286)) 280 10 (some 287)) 280 11 (some 288)) 280 12 (some 289)) 280 21 (some 290)) 280 22 (some 291)) 280 23 (some 292)) 280 24 (some 293)) 280 25 (some 294)) 280 26 (some 295)) 280 29 (some 296)) 280 30 (some 297)) 280 31 (some 298)) 280 32 (some 299)) 280 33 (some 300)) 280 34 (some 301)) 280 35 (some 302)) 280 36 (some 303)) 280 37 (some 304)) 280 38 (some 305)) 280 39 (some 306)) 280 40 (some 307)) 280 41 (some 308)) 280 42 (some 309)) 280 44 (some 310)) 280 45 (some 311)) 280 46 (some 312)) 280 47 (some 313)) 280 48 (some 314)) 280 49 (some 315)) 280 50 (some 316)) 280 51 (some 317)), I, L))) (b := ((Nat.beq (K0 318) (kAT .int) && decide (¬ (520 : Int32) < 0) && Nat.beq (Int32.toNatClampNeg (520 : Int32)) (Z0 318)) && true)) rfl (by decide +kernel) ?_
  rw [(hF.mk1 (m := 319) rfl (by decide)).1]
  have hF := (hF.mk1 (m := 319) rfl (by decide)).2
  refine Rc.goL mt_1200 0 (f2 := (325, [.ref 280, UU], [], (319, (upR (upR (upR (upR (upR (upR (upR (upR (upR (upR (upR (upR (upR (upR (upR (upR (upR (upR (upR (upR (upR (upR (upR (upR (upR (upR (upR (upR (upR (upR (upR (upR (upR (upR (upR (upR (upR (upR R 280 4 (some 281)) 280 5 (some 282)) 280 6 (some 283)) 280 7 (some 284)) 280 8 (some 285)) 280 9 (some 286)) 280 10 (some 287)) 280 11 (some 288)) 280 12 (some 289)) 280 21 (some 290)) 280 22 (some 291)) 280 23 (some 292)) 280 24 (some 293)) 280 25 (some 294)) 280 26 (some 295)) 280 29 (some 296)) 280 30 (some 297)) 280 31 (some 298)) 280 32 (some 299)) 280 33 (some 300)) 280 34 (some 301)) 280 35 (some 302)) 280 36 (some 303)) 280 37 (some 304)) 280 38 (some 305)) 280 39 (some 306)) 280 40 (some 307)) 280 41 (some 308)) 280 42 (some 309)) 280 44 (some 310)) 280 45 (some 311)) 280 46 (some 312)) 280 47 (some 313)) 280 48 (some 314)) 280 49 (some 315)) 280 50 (some 316)) 280 51 (some 317)) 280 52 (some 318)), I, L))) (b := true) rfl rfl ?_
  have hF := hF.uR (c := 280) (i := 52) (v := some 318) (by decide)
  refine Rc.goL mt_1200 1 (f2 := (329, [.ref 280, UU], [.int (520 : Int32), .ref 280], (319, (upR (upR (upR (upR (upR (upR (upR (upR (upR (upR (upR (upR (upR (upR (upR (upR (upR (upR (upR (upR (upR (upR (upR (upR (upR (upR (upR (upR (upR (upR (upR (upR (upR (upR (upR (upR (upR (upR R 280 4 (some 281)) 280 5 (some 282)) 280 6 (some 283)) 280 7 (some 284)) 280 8 (some 285)) 280 9 (some 286)) 280 10 (some 287)) 280 11 (some 288)) 280 12 (some 289)) 280 21 (some 290)) 280 22 (some 291)) 280 23 (some 292)) 280 24 (some 293)) 280 25 (some 294)) 280 26 (some 295)) 280 29 (some 296)) 280 30 (some 297)) 280 31 (some 298)) 280 32 (some 299)) 280 33 (some 300)) 280 34 (some 301)) 280 35 (some 302)) 280 36 (some 303)) 280 37 (some 304)) 280 38 (some 305)) 280 39 (some 306)) 280 40 (some 307)) 280 41 (some 308)) 280 42 (some 309)) 280 44 (some 310)) 280 45 (some 311)) 280 46 (some 312)) 280 47 (some 313)) 280 48 (some 314)) 280 49 (some 315)) 280 50 (some 316)) 280 51 (some 317)) 280 52 (some 318)), I, L))) (b := true) rfl rfl ?_
  refine Rc.goL mt_1200 0 (f2 := (331, [.ref 280, UU], [.ref 319, .ref 280], nw (319, (upR (upR (upR (upR (upR (upR (upR (upR (upR (upR (upR (upR (upR (upR (upR (upR (upR (upR (upR (upR (upR (upR (upR (upR (upR (upR (upR (upR (upR (upR (upR (upR (upR (upR (upR (upR (upR (upR R 280 4 (some 281)) 280 5 (some 282)) 280 6 (some 283)) 280 7 (some 284)) 280 8 (some 285)) 280 9 (some 286)) 280 10 (some 287)) 280 11 (some 288)) 280 12 (some 289)) 280 21 (some 290)) 280 22 (some 291)) 280 23 (some 292)) 280 24 (some 293)) 280 25 (some 294)) 280 26 (some 295)) 280 29 (some 296)) 280 30 (some 297)) 280 31 (some 298)) 280 32 (some 299)) 280 33 (some 300)) 280 34 (some 301)) 280 35 (some 302)) 280 36 (some 303)) 280 37 (some 304)) 280 38 (some 305)) 280 39 (some 306)) 280 40 (some 307)) 280 41 (some 308)) 280 42 (some 309)) 280 44 (some 310)) 280 45 (some 311)) 280 46 (some 312)) 280 47 (some 313)) 280 48 (some 314)) 280 49 (some 315)) 280 50 (some 316)) 280 51 (some 317)) 280 52 (some 318)), I, L))) (b := ((Nat.beq (K0 319) (kAT .int) && decide (¬ (520 : Int32) < 0) && Nat.beq (Int32.toNatClampNeg (520 : Int32)) (Z0 319)) && true)) rfl (by decide +kernel) ?_
  rw [(hF.mk1 (m := 320) rfl (by decide)).1]
  have hF := (hF.mk1 (m := 320) rfl (by decide)).2
  refine Rc.goL mt_1200 0 (f2 := (334, [.ref 280, UU], [], (320, (upR (upR (upR (upR (upR (upR (upR (upR (upR (upR (upR (upR (upR (upR (upR (upR (upR (upR (upR (upR (upR (upR (upR (upR (upR (upR (upR (upR (upR (upR (upR (upR (upR (upR (upR (upR (upR (upR (upR R 280 4 (some 281)) 280 5 (some 282)) 280 6 (some 283)) 280 7 (some 284)) 280 8 (some 285)) 280 9 (some 286)) 280 10 (some 287)) 280 11 (some 288)) 280 12 (some 289)) 280 21 (some 290)) 280 22 (some 291)) 280 23 (some 292)) 280 24 (some 293)) 280 25 (some 294)) 280 26 (some 295)) 280 29 (some 296)) 280 30 (some 297)) 280 31 (some 298)) 280 32 (some 299)) 280 33 (some 300)) 280 34 (some 301)) 280 35 (some 302)) 280 36 (some 303)) 280 37 (some 304)) 280 38 (some 305)) 280 39 (some 306)) 280 40 (some 307)) 280 41 (some 308)) 280 42 (some 309)) 280 44 (some 310)) 280 45 (some 311)) 280 46 (some 312)) 280 47 (some 313)) 280 48 (some 314)) 280 49 (some 315)) 280 50 (some 316)) 280 51 (some 317)) 280 52 (some 318)) 280 53 (some 319)), I, L))) (b := true) rfl rfl ?_
  have hF := hF.uR (c := 280) (i := 53) (v := some 319) (by decide)
  refine Rc.goL mt_1200 2 (f2 := (339, [.ref 280, UU], [], (320, (upR (upR (upR (upR (upR (upR (upR (upR (upR (upR (upR (upR (upR (upR (upR (upR (upR (upR (upR (upR (upR (upR (upR (upR (upR (upR (upR (upR (upR (upR (upR (upR (upR (upR (upR (upR (upR (upR (upR R 280 4 (some 281)) 280 5 (some 282)) 280 6 (some 283)) 280 7 (some 284)) 280 8 (some 285)) 280 9 (some 286)) 280 10 (some 287)) 280 11 (some 288)) 280 12 (some 289)) 280 21 (some 290)) 280 22 (some 291)) 280 23 (some 292)) 280 24 (some 293)) 280 25 (some 294)) 280 26 (some 295)) 280 29 (some 296)) 280 30 (some 297)) 280 31 (some 298)) 280 32 (some 299)) 280 33 (some 300)) 280 34 (some 301)) 280 35 (some 302)) 280 36 (some 303)) 280 37 (some 304)) 280 38 (some 305)) 280 39 (some 306)) 280 40 (some 307)) 280 41 (some 308)) 280 42 (some 309)) 280 44 (some 310)) 280 45 (some 311)) 280 46 (some 312)) 280 47 (some 313)) 280 48 (some 314)) 280 49 (some 315)) 280 50 (some 316)) 280 51 (some 317)) 280 52 (some 318)) 280 53 (some 319)), (upI I 280 59 (5 : Int32)), L))) (b := true) rfl rfl ?_
  have hF := hF.uI (c := 280) (i := 59) (v := (5 : Int32)) (by decide)
  refine Rc.goL mt_1200 1 (f2 := (343, [.ref 280, UU], [.int (200 : Int32), .ref 280], (320, (upR (upR (upR (upR (upR (upR (upR (upR (upR (upR (upR (upR (upR (upR (upR (upR (upR (upR (upR (upR (upR (upR (upR (upR (upR (upR (upR (upR (upR (upR (upR (upR (upR (upR (upR (upR (upR (upR (upR R 280 4 (some 281)) 280 5 (some 282)) 280 6 (some 283)) 280 7 (some 284)) 280 8 (some 285)) 280 9 (some 286)) 280 10 (some 287)) 280 11 (some 288)) 280 12 (some 289)) 280 21 (some 290)) 280 22 (some 291)) 280 23 (some 292)) 280 24 (some 293)) 280 25 (some 294)) 280 26 (some 295)) 280 29 (some 296)) 280 30 (some 297)) 280 31 (some 298)) 280 32 (some 299)) 280 33 (some 300)) 280 34 (some 301)) 280 35 (some 302)) 280 36 (some 303)) 280 37 (some 304)) 280 38 (some 305)) 280 39 (some 306)) 280 40 (some 307)) 280 41 (some 308)) 280 42 (some 309)) 280 44 (some 310)) 280 45 (some 311)) 280 46 (some 312)) 280 47 (some 313)) 280 48 (some 314)) 280 49 (some 315)) 280 50 (some 316)) 280 51 (some 317)) 280 52 (some 318)) 280 53 (some 319)), (upI I 280 59 (5 : Int32)), L))) (b := true) rfl rfl ?_
  refine Rc.goL mt_1200 0 (f2 := (345, [.ref 280, UU], [.ref 320, .ref 280], nw (320, (upR (upR (upR (upR (upR (upR (upR (upR (upR (upR (upR (upR (upR (upR (upR (upR (upR (upR (upR (upR (upR (upR (upR (upR (upR (upR (upR (upR (upR (upR (upR (upR (upR (upR (upR (upR (upR (upR (upR R 280 4 (some 281)) 280 5 (some 282)) 280 6 (some 283)) 280 7 (some 284)) 280 8 (some 285)) 280 9 (some 286)) 280 10 (some 287)) 280 11 (some 288)) 280 12 (some 289)) 280 21 (some 290)) 280 22 (some 291)) 280 23 (some 292)) 280 24 (some 293)) 280 25 (some 294)) 280 26 (some 295)) 280 29 (some 296)) 280 30 (some 297)) 280 31 (some 298)) 280 32 (some 299)) 280 33 (some 300)) 280 34 (some 301)) 280 35 (some 302)) 280 36 (some 303)) 280 37 (some 304)) 280 38 (some 305)) 280 39 (some 306)) 280 40 (some 307)) 280 41 (some 308)) 280 42 (some 309)) 280 44 (some 310)) 280 45 (some 311)) 280 46 (some 312)) 280 47 (some 313)) 280 48 (some 314)) 280 49 (some 315)) 280 50 (some 316)) 280 51 (some 317)) 280 52 (some 318)) 280 53 (some 319)), (upI I 280 59 (5 : Int32)), L))) (b := ((Nat.beq (K0 320) (kAT .int) && decide (¬ (200 : Int32) < 0) && Nat.beq (Int32.toNatClampNeg (200 : Int32)) (Z0 320)) && true)) rfl (by decide +kernel) ?_
  rw [(hF.mk1 (m := 321) rfl (by decide)).1]
  have hF := (hF.mk1 (m := 321) rfl (by decide)).2
  refine Rc.goL mt_1200 0 (f2 := (348, [.ref 280, UU], [], (321, (upR (upR (upR (upR (upR (upR (upR (upR (upR (upR (upR (upR (upR (upR (upR (upR (upR (upR (upR (upR (upR (upR (upR (upR (upR (upR (upR (upR (upR (upR (upR (upR (upR (upR (upR (upR (upR (upR (upR (upR R 280 4 (some 281)) 280 5 (some 282)) 280 6 (some 283)) 280 7 (some 284)) 280 8 (some 285)) 280 9 (some 286)) 280 10 (some 287)) 280 11 (some 288)) 280 12 (some 289)) 280 21 (some 290)) 280 22 (some 291)) 280 23 (some 292)) 280 24 (some 293)) 280 25 (some 294)) 280 26 (some 295)) 280 29 (some 296)) 280 30 (some 297)) 280 31 (some 298)) 280 32 (some 299)) 280 33 (some 300)) 280 34 (some 301)) 280 35 (some 302)) 280 36 (some 303)) 280 37 (some 304)) 280 38 (some 305)) 280 39 (some 306)) 280 40 (some 307)) 280 41 (some 308)) 280 42 (some 309)) 280 44 (some 310)) 280 45 (some 311)) 280 46 (some 312)) 280 47 (some 313)) 280 48 (some 314)) 280 49 (some 315)) 280 50 (some 316)) 280 51 (some 317)) 280 52 (some 318)) 280 53 (some 319)) 280 62 (some 320)), (upI I 280 59 (5 : Int32)), L))) (b := true) rfl rfl ?_
  have hF := hF.uR (c := 280) (i := 62) (v := some 320) (by decide)
  refine Rc.goL mt_1200 1 (f2 := (352, [.ref 280, UU], [.int (200 : Int32), .ref 280], (321, (upR (upR (upR (upR (upR (upR (upR (upR (upR (upR (upR (upR (upR (upR (upR (upR (upR (upR (upR (upR (upR (upR (upR (upR (upR (upR (upR (upR (upR (upR (upR (upR (upR (upR (upR (upR (upR (upR (upR (upR R 280 4 (some 281)) 280 5 (some 282)) 280 6 (some 283)) 280 7 (some 284)) 280 8 (some 285)) 280 9 (some 286)) 280 10 (some 287)) 280 11 (some 288)) 280 12 (some 289)) 280 21 (some 290)) 280 22 (some 291)) 280 23 (some 292)) 280 24 (some 293)) 280 25 (some 294)) 280 26 (some 295)) 280 29 (some 296)) 280 30 (some 297)) 280 31 (some 298)) 280 32 (some 299)) 280 33 (some 300)) 280 34 (some 301)) 280 35 (some 302)) 280 36 (some 303)) 280 37 (some 304)) 280 38 (some 305)) 280 39 (some 306)) 280 40 (some 307)) 280 41 (some 308)) 280 42 (some 309)) 280 44 (some 310)) 280 45 (some 311)) 280 46 (some 312)) 280 47 (some 313)) 280 48 (some 314)) 280 49 (some 315)) 280 50 (some 316)) 280 51 (some 317)) 280 52 (some 318)) 280 53 (some 319)) 280 62 (some 320)), (upI I 280 59 (5 : Int32)), L))) (b := true) rfl rfl ?_
  refine Rc.goL mt_1200 0 (f2 := (354, [.ref 280, UU], [.ref 321, .ref 280], nw (321, (upR (upR (upR (upR (upR (upR (upR (upR (upR (upR (upR (upR (upR (upR (upR (upR (upR (upR (upR (upR (upR (upR (upR (upR (upR (upR (upR (upR (upR (upR (upR (upR (upR (upR (upR (upR (upR (upR (upR (upR R 280 4 (some 281)) 280 5 (some 282)) 280 6 (some 283)) 280 7 (some 284)) 280 8 (some 285)) 280 9 (some 286)) 280 10 (some 287)) 280 11 (some 288)) 280 12 (some 289)) 280 21 (some 290)) 280 22 (some 291)) 280 23 (some 292)) 280 24 (some 293)) 280 25 (some 294)) 280 26 (some 295)) 280 29 (some 296)) 280 30 (some 297)) 280 31 (some 298)) 280 32 (some 299)) 280 33 (some 300)) 280 34 (some 301)) 280 35 (some 302)) 280 36 (some 303)) 280 37 (some 304)) 280 38 (some 305)) 280 39 (some 306)) 280 40 (some 307)) 280 41 (some 308)) 280 42 (some 309)) 280 44 (some 310)) 280 45 (some 311)) 280 46 (some 312)) 280 47 (some 313)) 280 48 (some 314)) 280 49 (some 315)) 280 50 (some 316)) 280 51 (some 317)) 280 52 (some 318)) 280 53 (some 319)) 280 62 (some 320)), (upI I 280 59 (5 : Int32)), L))) (b := ((Nat.beq (K0 321) (kAT .int) && decide (¬ (200 : Int32) < 0) && Nat.beq (Int32.toNatClampNeg (200 : Int32)) (Z0 321)) && true)) rfl (by decide +kernel) ?_
  rw [(hF.mk1 (m := 322) rfl (by decide)).1]
  have hF := (hF.mk1 (m := 322) rfl (by decide)).2
  refine Rc.goL mt_1200 0 (f2 := (357, [.ref 280, UU], [], (322, (upR (upR (upR (upR (upR (upR (upR (upR (upR (upR (upR (upR (upR (upR (upR (upR (upR (upR (upR (upR (upR (upR (upR (upR (upR (upR (upR (upR (upR (upR (upR (upR (upR (upR (upR (upR (upR (upR (upR (upR (upR R 280 4 (some 281)) 280 5 (some 282)) 280 6 (some 283)) 280 7 (some 284)) 280 8 (some 285)) 280 9 (some 286)) 280 10 (some 287)) 280 11 (some 288)) 280 12 (some 289)) 280 21 (some 290)) 280 22 (some 291)) 280 23 (some 292)) 280 24 (some 293)) 280 25 (some 294)) 280 26 (some 295)) 280 29 (some 296)) 280 30 (some 297)) 280 31 (some 298)) 280 32 (some 299)) 280 33 (some 300)) 280 34 (some 301)) 280 35 (some 302)) 280 36 (some 303)) 280 37 (some 304)) 280 38 (some 305)) 280 39 (some 306)) 280 40 (some 307)) 280 41 (some 308)) 280 42 (some 309)) 280 44 (some 310)) 280 45 (some 311)) 280 46 (some 312)) 280 47 (some 313)) 280 48 (some 314)) 280 49 (some 315)) 280 50 (some 316)) 280 51 (some 317)) 280 52 (some 318)) 280 53 (some 319)) 280 62 (some 320)) 280 63 (some 321)), (upI I 280 59 (5 : Int32)), L))) (b := true) rfl rfl ?_
  have hF := hF.uR (c := 280) (i := 63) (v := some 321) (by decide)
  refine Rc.goL mt_1200 1 (f2 := (361, [.ref 280, UU], [.int (200 : Int32), .ref 280], (322, (upR (upR (upR (upR (upR (upR (upR (upR (upR (upR (upR (upR (upR (upR (upR (upR (upR (upR (upR (upR (upR (upR (upR (upR (upR (upR (upR (upR (upR (upR (upR (upR (upR (upR (upR (upR (upR (upR (upR (upR (upR R 280 4 (some 281)) 280 5 (some 282)) 280 6 (some 283)) 280 7 (some 284)) 280 8 (some 285)) 280 9 (some 286)) 280 10 (some 287)) 280 11 (some 288)) 280 12 (some 289)) 280 21 (some 290)) 280 22 (some 291)) 280 23 (some 292)) 280 24 (some 293)) 280 25 (some 294)) 280 26 (some 295)) 280 29 (some 296)) 280 30 (some 297)) 280 31 (some 298)) 280 32 (some 299)) 280 33 (some 300)) 280 34 (some 301)) 280 35 (some 302)) 280 36 (some 303)) 280 37 (some 304)) 280 38 (some 305)) 280 39 (some 306)) 280 40 (some 307)) 280 41 (some 308)) 280 42 (some 309)) 280 44 (some 310)) 280 45 (some 311)) 280 46 (some 312)) 280 47 (some 313)) 280 48 (some 314)) 280 49 (some 315)) 280 50 (some 316)) 280 51 (some 317)) 280 52 (some 318)) 280 53 (some 319)) 280 62 (some 320)) 280 63 (some 321)), (upI I 280 59 (5 : Int32)), L))) (b := true) rfl rfl ?_
  refine Rc.goL mt_1200 0 (f2 := (363, [.ref 280, UU], [.ref 322, .ref 280], nw (322, (upR (upR (upR (upR (upR (upR (upR (upR (upR (upR (upR (upR (upR (upR (upR (upR (upR (upR (upR (upR (upR (upR (upR (upR (upR (upR (upR (upR (upR (upR (upR (upR (upR (upR (upR (upR (upR (upR (upR (upR (upR R 280 4 (some 281)) 280 5 (some 282)) 280 6 (some 283)) 280 7 (some 284)) 280 8 (some 285)) 280 9 (some 286)) 280 10 (some 287)) 280 11 (some 288)) 280 12 (some 289)) 280 21 (some 290)) 280 22 (some 291)) 280 23 (some 292)) 280 24 (some 293)) 280 25 (some 294)) 280 26 (some 295)) 280 29 (some 296)) 280 30 (some 297)) 280 31 (some 298)) 280 32 (some 299)) 280 33 (some 300)) 280 34 (some 301)) 280 35 (some 302)) 280 36 (some 303)) 280 37 (some 304)) 280 38 (some 305)) 280 39 (some 306)) 280 40 (some 307)) 280 41 (some 308)) 280 42 (some 309)) 280 44 (some 310)) 280 45 (some 311)) 280 46 (some 312)) 280 47 (some 313)) 280 48 (some 314)) 280 49 (some 315)) 280 50 (some 316)) 280 51 (some 317)) 280 52 (some 318)) 280 53 (some 319)) 280 62 (some 320)) 280 63 (some 321)), (upI I 280 59 (5 : Int32)), L))) (b := ((Nat.beq (K0 322) (kAT .int) && decide (¬ (200 : Int32) < 0) && Nat.beq (Int32.toNatClampNeg (200 : Int32)) (Z0 322)) && true)) rfl (by decide +kernel) ?_
  rw [(hF.mk1 (m := 323) rfl (by decide)).1]
  have hF := (hF.mk1 (m := 323) rfl (by decide)).2
  refine Rc.goL mt_1200 0 (f2 := (366, [.ref 280, UU], [], (323, (upR (upR (upR (upR (upR (upR (upR (upR (upR (upR (upR (upR (upR (upR (upR (upR (upR (upR (upR (upR (upR (upR (upR (upR (upR (upR (upR (upR (upR (upR (upR (upR (upR (upR (upR (upR (upR (upR (upR (upR (upR (upR R 280 4 (some 281)) 280 5 (some 282)) 280 6 (some 283)) 280 7 (some 284)) 280 8 (some 285)) 280 9 (some 286)) 280 10 (some 287)) 280 11 (some 288)) 280 12 (some 289)) 280 21 (some 290)) 280 22 (some 291)) 280 23 (some 292)) 280 24 (some 293)) 280 25 (some 294)) 280 26 (some 295)) 280 29 (some 296)) 280 30 (some 297)) 280 31 (some 298)) 280 32 (some 299)) 280 33 (some 300)) 280 34 (some 301)) 280 35 (some 302)) 280 36 (some 303)) 280 37 (some 304)) 280 38 (some 305)) 280 39 (some 306)) 280 40 (some 307)) 280 41 (some 308)) 280 42 (some 309)) 280 44 (some 310)) 280 45 (some 311)) 280 46 (some 312)) 280 47 (some 313)) 280 48 (some 314)) 280 49 (some 315)) 280 50 (some 316)) 280 51 (some 317)) 280 52 (some 318)) 280 53 (some 319)) 280 62 (some 320)) 280 63 (some 321)) 280 64 (some 322)), (upI I 280 59 (5 : Int32)), L))) (b := true) rfl rfl ?_
  have hF := hF.uR (c := 280) (i := 64) (v := some 322) (by decide)
  refine Rc.goL mt_1200 1 (f2 := (370, [.ref 280, UU], [.int (200 : Int32), .ref 280], (323, (upR (upR (upR (upR (upR (upR (upR (upR (upR (upR (upR (upR (upR (upR (upR (upR (upR (upR (upR (upR (upR (upR (upR (upR (upR (upR (upR (upR (upR (upR (upR (upR (upR (upR (upR (upR (upR (upR (upR (upR (upR (upR R 280 4 (some 281)) 280 5 (some 282)) 280 6 (some 283)) 280 7 (some 284)) 280 8 (some 285)) 280 9 (some 286)) 280 10 (some 287)) 280 11 (some 288)) 280 12 (some 289)) 280 21 (some 290)) 280 22 (some 291)) 280 23 (some 292)) 280 24 (some 293)) 280 25 (some 294)) 280 26 (some 295)) 280 29 (some 296)) 280 30 (some 297)) 280 31 (some 298)) 280 32 (some 299)) 280 33 (some 300)) 280 34 (some 301)) 280 35 (some 302)) 280 36 (some 303)) 280 37 (some 304)) 280 38 (some 305)) 280 39 (some 306)) 280 40 (some 307)) 280 41 (some 308)) 280 42 (some 309)) 280 44 (some 310)) 280 45 (some 311)) 280 46 (some 312)) 280 47 (some 313)) 280 48 (some 314)) 280 49 (some 315)) 280 50 (some 316)) 280 51 (some 317)) 280 52 (some 318)) 280 53 (some 319)) 280 62 (some 320)) 280 63 (some 321)) 280 64 (some 322)), (upI I 280 59 (5 : Int32)), L))) (b := true) rfl rfl ?_
  refine Rc.goL mt_1200 0 (f2 := (372, [.ref 280, UU], [.ref 323, .ref 280], nw (323, (upR (upR (upR (upR (upR (upR (upR (upR (upR (upR (upR (upR (upR (upR (upR (upR (upR (upR (upR (upR (upR (upR (upR (upR (upR (upR (upR (upR (upR (upR (upR (upR (upR (upR (upR (upR (upR (upR (upR (upR (upR (upR R 280 4 (some 281)) 280 5 (some 282)) 280 6 (some 283)) 280 7 (some 284)) 280 8 (some 285)) 280 9 (some 286)) 280 10 (some 287)) 280 11 (some 288)) 280 12 (some 289)) 280 21 (some 290)) 280 22 (some 291)) 280 23 (some 292)) 280 24 (some 293)) 280 25 (some 294)) 280 26 (some 295)) 280 29 (some 296)) 280 30 (some 297)) 280 31 (some 298)) 280 32 (some 299)) 280 33 (some 300)) 280 34 (some 301)) 280 35 (some 302)) 280 36 (some 303)) 280 37 (some 304)) 280 38 (some 305)) 280 39 (some 306)) 280 40 (some 307)) 280 41 (some 308)) 280 42 (some 309)) 280 44 (some 310)) 280 45 (some 311)) 280 46 (some 312)) 280 47 (some 313)) 280 48 (some 314)) 280 49 (some 315)) 280 50 (some 316)) 280 51 (some 317)) 280 52 (some 318)) 280 53 (some 319)) 280 62 (some 320)) 280 63 (some 321)) 280 64 (some 322)), (upI I 280 59 (5 : Int32)), L))) (b := ((Nat.beq (K0 323) (kAT .int) && decide (¬ (200 : Int32) < 0) && Nat.beq (Int32.toNatClampNeg (200 : Int32)) (Z0 323)) && true)) rfl (by decide +kernel) ?_
  rw [(hF.mk1 (m := 324) rfl (by decide)).1]
  have hF := (hF.mk1 (m := 324) rfl (by decide)).2
  refine Rc.goL mt_1200 0 (f2 := (375, [.ref 280, UU], [], (324, (upR (upR (upR (upR (upR (upR (upR (upR (upR (upR (upR (upR (upR (upR (upR (upR (upR (upR (upR (upR (upR (upR (upR (upR (upR (upR (upR (upR (upR (upR (upR (upR (upR (upR (upR (upR (upR (upR (upR (upR (upR (upR (upR R 280 4 (some 281)) 280 5 (some 282)) 280 6 (some 283)) 280 7 (some 284)) 280 8 (some 285)) 280 9 (some 286)) 280 10 (some 287)) 280 11 (some 288)) 280 12 (some 289)) 280 21 (some 290)) 280 22 (some 291)) 280 23 (some 292)) 280 24 (some 293)) 280 25 (some 294)) 280 26 (some 295)) 280 29 (some 296)) 280 30 (some 297)) 280 31 (some 298)) 280 32 (some 299)) 280 33 (some 300)) 280 34 (some 301)) 280 35 (some 302)) 280 36 (some 303)) 280 37 (some 304)) 280 38 (some 305)) 280 39 (some 306)) 280 40 (some 307)) 280 41 (some 308)) 280 42 (some 309)) 280 44 (some 310)) 280 45 (some 311)) 280 46 (some 312)) 280 47 (some 313)) 280 48 (some 314)) 280 49 (some 315)) 280 50 (some 316)) 280 51 (some 317)) 280 52 (some 318)) 280 53 (some 319)) 280 62 (some 320)) 280 63 (some 321)) 280 64 (some 322)) 280 65 (some 323)), (upI I 280 59 (5 : Int32)), L))) (b := true) rfl rfl ?_
  have hF := hF.uR (c := 280) (i := 65) (v := some 323) (by decide)
  refine Rc.goL mt_1200 1 (f2 := (379, [.ref 280, UU], [.int (5200 : Int32), .ref 280], (324, (upR (upR (upR (upR (upR (upR (upR (upR (upR (upR (upR (upR (upR (upR (upR (upR (upR (upR (upR (upR (upR (upR (upR (upR (upR (upR (upR (upR (upR (upR (upR (upR (upR (upR (upR (upR (upR (upR (upR (upR (upR (upR (upR R 280 4 (some 281)) 280 5 (some 282)) 280 6 (some 283)) 280 7 (some 284)) 280 8 (some 285)) 280 9 (some 286)) 280 10 (some 287)) 280 11 (some 288)) 280 12 (some 289)) 280 21 (some 290)) 280 22 (some 291)) 280 23 (some 292)) 280 24 (some 293)) 280 25 (some 294)) 280 26 (some 295)) 280 29 (some 296)) 280 30 (some 297)) 280 31 (some 298)) 280 32 (some 299)) 280 33 (some 300)) 280 34 (some 301)) 280 35 (some 302)) 280 36 (some 303)) 280 37 (some 304)) 280 38 (some 305)) 280 39 (some 306)) 280 40 (some 307)) 280 41 (some 308)) 280 42 (some 309)) 280 44 (some 310)) 280 45 (some 311)) 280 46 (some 312)) 280 47 (some 313)) 280 48 (some 314)) 280 49 (some 315)) 280 50 (some 316)) 280 51 (some 317)) 280 52 (some 318)) 280 53 (some 319)) 280 62 (some 320)) 280 63 (some 321)) 280 64 (some 322)) 280 65 (some 323)), (upI I 280 59 (5 : Int32)), L))) (b := true) rfl rfl ?_
  refine Rc.goL mt_1200 0 (f2 := (381, [.ref 280, UU], [.ref 324, .ref 280], nw (324, (upR (upR (upR (upR (upR (upR (upR (upR (upR (upR (upR (upR (upR (upR (upR (upR (upR (upR (upR (upR (upR (upR (upR (upR (upR (upR (upR (upR (upR (upR (upR (upR (upR (upR (upR (upR (upR (upR (upR (upR (upR (upR (upR R 280 4 (some 281)) 280 5 (some 282)) 280 6 (some 283)) 280 7 (some 284)) 280 8 (some 285)) 280 9 (some 286)) 280 10 (some 287)) 280 11 (some 288)) 280 12 (some 289)) 280 21 (some 290)) 280 22 (some 291)) 280 23 (some 292)) 280 24 (some 293)) 280 25 (some 294)) 280 26 (some 295)) 280 29 (some 296)) 280 30 (some 297)) 280 31 (some 298)) 280 32 (some 299)) 280 33 (some 300)) 280 34 (some 301)) 280 35 (some 302)) 280 36 (some 303)) 280 37 (some 304)) 280 38 (some 305)) 280 39 (some 306)) 280 40 (some 307)) 280 41 (some 308)) 280 42 (some 309)) 280 44 (some 310)) 280 45 (some 311)) 280 46 (some 312)) 280 47 (some 313)) 280 48 (some 314)) 280 49 (some 315)) 280 50 (some 316)) 280 51 (some 317)) 280 52 (some 318)) 280 53 (some 319)) 280 62 (some 320)) 280 63 (some 321)) 280 64 (some 322)) 280 65 (some 323)), (upI I 280 59 (5 : Int32)), L))) (b := ((Nat.beq (K0 324) (kAT .int) && decide (¬ (5200 : Int32) < 0) && Nat.beq (Int32.toNatClampNeg (5200 : Int32)) (Z0 324)) && true)) rfl (by decide +kernel) ?_
  rw [(hF.mk1 (m := 325) rfl (by decide)).1]
  have hF := (hF.mk1 (m := 325) rfl (by decide)).2
  refine Rc.goL mt_1200 0 (f2 := (384, [.ref 280, UU], [], (325, (upR (upR (upR (upR (upR (upR (upR (upR (upR (upR (upR (upR (upR (upR (upR (upR (upR (upR (upR (upR (upR (upR (upR (upR (upR (upR (upR (upR (upR (upR (upR (upR (upR (upR (upR (upR (upR (upR (upR (upR (upR (upR (upR (upR R 280 4 (some 281)) 280 5 (some 282)) 280 6 (some 283)) 280 7 (some 284)) 280 8 (some 285)) 280 9 (some 286)) 280 10 (some 287)) 280 11 (some 288)) 280 12 (some 289)) 280 21 (some 290)) 280 22 (some 291)) 280 23 (some 292)) 280 24 (some 293)) 280 25 (some 294)) 280 26 (some 295)) 280 29 (some 296)) 280 30 (some 297)) 280 31 (some 298)) 280 32 (some 299)) 280 33 (some 300)) 280 34 (some 301)) 280 35 (some 302)) 280 36 (some 303)) 280 37 (some 304)) 280 38 (some 305)) 280 39 (some 306)) 280 40 (some 307)) 280 41 (some 308)) 280 42 (some 309)) 280 44 (some 310)) 280 45 (some 311)) 280 46 (some 312)) 280 47 (some 313)) 280 48 (some 314)) 280 49 (some 315)) 280 50 (some 316)) 280 51 (some 317)) 280 52 (some 318)) 280 53 (some 319)) 280 62 (some 320)) 280 63 (some 321)) 280 64 (some 322)) 280 65 (some 323)) 280 66 (some 324)), (upI I 280 59 (5 : Int32)), L))) (b := true) rfl rfl ?_
  have hF := hF.uR (c := 280) (i := 66) (v := some 324) (by decide)
  refine Rc.goL mt_1200 1 (f2 := (388, [.ref 280, UU], [.int (5200 : Int32), .ref 280], (325, (upR (upR (upR (upR (upR (upR (upR (upR (upR (upR (upR (upR (upR (upR (upR (upR (upR (upR (upR (upR (upR (upR (upR (upR (upR (upR (upR (upR (upR (upR (upR (upR (upR (upR (upR (upR (upR (upR (upR (upR (upR (upR (upR (upR R 280 4 (some 281)) 280 5 (some 282)) 280 6 (some 283)) 280 7 (some 284)) 280 8 (some 285)) 280 9 (some 286)) 280 10 (some 287)) 280 11 (some 288)) 280 12 (some 289)) 280 21 (some 290)) 280 22 (some 291)) 280 23 (some 292)) 280 24 (some 293)) 280 25 (some 294)) 280 26 (some 295)) 280 29 (some 296)) 280 30 (some 297)) 280 31 (some 298)) 280 32 (some 299)) 280 33 (some 300)) 280 34 (some 301)) 280 35 (some 302)) 280 36 (some 303)) 280 37 (some 304)) 280 38 (some 305)) 280 39 (some 306)) 280 40 (some 307)) 280 41 (some 308)) 280 42 (some 309)) 280 44 (some 310)) 280 45 (some 311)) 280 46 (some 312)) 280 47 (some 313)) 280 48 (some 314)) 280 49 (some 315)) 280 50 (some 316)) 280 51 (some 317)) 280 52 (some 318)) 280 53 (some 319)) 280 62 (some 320)) 280 63 (some 321)) 280 64 (some 322)) 280 65 (some 323)) 280 66 (some 324)), (upI I 280 59 (5 : Int32)), L))) (b := true) rfl rfl ?_
  refine Rc.goL mt_1200 0 (f2 := (390, [.ref 280, UU], [.ref 325, .ref 280], nw (325, (upR (upR (upR (upR (upR (upR (upR (upR (upR (upR (upR (upR (upR (upR (upR (upR (upR (upR (upR (upR (upR (upR (upR (upR (upR (upR (upR (upR (upR (upR (upR (upR (upR (upR (upR (upR (upR (upR (upR (upR (upR (upR (upR (upR R 280 4 (some 281)) 280 5 (some 282)) 280 6 (some 283)) 280 7 (some 284)) 280 8 (some 285)) 280 9 (some 286)) 280 10 (some 287)) 280 11 (some 288)) 280 12 (some 289)) 280 21 (some 290)) 280 22 (some 291)) 280 23 (some 292)) 280 24 (some 293)) 280 25 (some 294)) 280 26 (some 295)) 280 29 (some 296)) 280 30 (some 297)) 280 31 (some 298)) 280 32 (some 299)) 280 33 (some 300)) 280 34 (some 301)) 280 35 (some 302)) 280 36 (some 303)) 280 37 (some 304)) 280 38 (some 305)) 280 39 (some 306)) 280 40 (some 307)) 280 41 (some 308)) 280 42 (some 309)) 280 44 (some 310)) 280 45 (some 311)) 280 46 (some 312)) 280 47 (some 313)) 280 48 (some 314)) 280 49 (some 315)) 280 50 (some 316)) 280 51 (some 317)) 280 52 (some 318)) 280 53 (some 319)) 280 62 (some 320)) 280 63 (some 321)) 280 64 (some 322)) 280 65 (some 323)) 280 66 (some 324)), (upI I 280 59 (5 : Int32)), L))) (b := ((Nat.beq (K0 325) (kAT .int) && decide (¬ (5200 : Int32) < 0) && Nat.beq (Int32.toNatClampNeg (5200 : Int32)) (Z0 325)) && true)) rfl (by decide +kernel) ?_
  rw [(hF.mk1 (m := 326) rfl (by decide)).1]
  have hF := (hF.mk1 (m := 326) rfl (by decide)).2
  refine Rc.goL mt_1200 0 (f2 := (393, [.ref 280, UU], [], (326, (upR (upR (upR (upR (upR (upR (upR (upR (upR (upR (upR (upR (upR (upR (upR (upR (upR (upR (upR (upR (upR (upR (upR (upR (upR (upR (upR (upR (upR (upR (upR (upR (upR (upR (upR (upR (upR (upR (upR (upR (upR (upR (upR (upR (upR R 280 4 (some 281)) 280 5 (some 282)) 280 6 (some 283)) 280 7 (some 284)) 280 8 (some 285)) 280 9 (some 286)) 280 10 (some 287)) 280 11 (some 288)) 280 12 (some 289)) 280 21 (some 290)) 280 22 (some 291)) 280 23 (some 292)) 280 24 (some 293)) 280 25 (some 294)) 280 26 (some 295)) 280 29 (some 296)) 280 30 (some 297)) 280 31 (some 298)) 280 32 (some 299)) 280 33 (some 300)) 280 34 (some 301)) 280 35 (some 302)) 280 36 (some 303)) 280 37 (some 304)) 280 38 (some 305)) 280 39 (some 306)) 280 40 (some 307)) 280 41 (some 308)) 280 42 (some 309)) 280 44 (some 310)) 280 45 (some 311)) 280 46 (some 312)) 280 47 (some 313)) 280 48 (some 314)) 280 49 (some 315)) 280 50 (some 316)) 280 51 (some 317)) 280 52 (some 318)) 280 53 (some 319)) 280 62 (some 320)) 280 63 (some 321)) 280 64 (some 322)) 280 65 (some 323)) 280 66 (some 324)) 280 67 (some 325)), (upI I 280 59 (5 : Int32)), L))) (b := true) rfl rfl ?_
  have hF := hF.uR (c := 280) (i := 67) (v := some 325) (by decide)
  refine Rc.goL mt_1200 1 (f2 := (396, [.ref 280, UU], [.int (10 : Int32), .ref 280], (326, (upR (upR (upR (upR (upR (upR (upR (upR (upR (upR (upR (upR (upR (upR (upR (upR (upR (upR (upR (upR (upR (upR (upR (upR (upR (upR (upR (upR (upR (upR (upR (upR (upR (upR (upR (upR (upR (upR (upR (upR (upR (upR (upR (upR (upR R 280 4 (some 281)) 280 5 (some 282)) 280 6 (some 283)) 280 7 (some 284)) 280 8 (some 285)) 280 9 (some 286)) 280 10 (some 287)) 280 11 (some 288)) 280 12 (some 289)) 280 21 (some 290)) 280 22 (some 291)) 280 23 (some 292)) 280 24 (some 293)) 280 25 (some 294)) 280 26 (some 295)) 280 29 (some 296)) 280 30 (some 297)) 280 31 (some 298)) 280 32 (some 299)) 280 33 (some 300)) 280 34 (some 301)) 280 35 (some 302)) 280 36 (some 303)) 280 37 (some 304)) 280 38 (some 305)) 280 39 (some 306)) 280 40 (some 307)) 280 41 (some 308)) 280 42 (some 309)) 280 44 (some 310)) 280 45 (some 311)) 280 46 (some 312)) 280 47 (some 313)) 280 48 (some 314)) 280 49 (some 315)) 280 50 (some 316)) 280 51 (some 317)) 280 52 (some 318)) 280 53 (some 319)) 280 62 (some 320)) 280 63 (some 321)) 280 64 (some 322)) 280 65 (some 323)) 280 66 (some 324)) 280 67 (some 325)), (upI I 280 59 (5 : Int32)), L))) (b := true) rfl rfl ?_
  refine Rc.goL mt_1200 0 (f2 := (398, [.ref 280, UU], [.ref 326, .ref 280], nw (326, (upR (upR (upR (upR (upR (upR (upR (upR (upR (upR (upR (upR (upR (upR (upR (upR (upR (upR (upR (upR (upR (upR (upR (upR (upR (upR (upR (upR (upR (upR (upR (upR (upR (upR (upR (upR (upR (upR (upR (upR (upR (upR (upR (upR (upR R 280 4 (some 281)) 280 5 (some 282)) 280 6 (some 283)) 280 7 (some 284)) 280 8 (some 285)) 280 9 (some 286)) 280 10 (some 287)) 280 11 (some 288)) 280 12 (some 289)) 280 21 (some 290)) 280 22 (some 291)) 280 23 (some 292)) 280 24 (some 293)) 280 25 (some 294)) 280 26 (some 295)) 280 29 (some 296)) 280 30 (some 297)) 280 31 (some 298)) 280 32 (some 299)) 280 33 (some 300)) 280 34 (some 301)) 280 35 (some 302)) 280 36 (some 303)) 280 37 (some 304)) 280 38 (some 305)) 280 39 (some 306)) 280 40 (some 307)) 280 41 (some 308)) 280 42 (some 309)) 280 44 (some 310)) 280 45 (some 311)) 280 46 (some 312)) 280 47 (some 313)) 280 48 (some 314)) 280 49 (some 315)) 280 50 (some 316)) 280 51 (some 317)) 280 52 (some 318)) 280 53 (some 319)) 280 62 (some 320)) 280 63 (some 321)) 280 64 (some 322)) 280 65 (some 323)) 280 66 (some 324)) 280 67 (some 325)), (upI I 280 59 (5 : Int32)), L))) (b := ((Nat.beq (K0 326) (kAT .int) && decide (¬ (10 : Int32) < 0) && Nat.beq (Int32.toNatClampNeg (10 : Int32)) (Z0 326)) && true)) rfl (by decide +kernel) ?_
  rw [(hF.mk1 (m := 327) rfl (by decide)).1]
  have hF := (hF.mk1 (m := 327) rfl (by decide)).2
  refine Rc.goL mt_1200 0 (f2 := (401, [.ref 280, UU], [], (327, (upR (upR (upR (upR (upR (upR (upR (upR (upR (upR (upR (upR (upR (upR (upR (upR (upR (upR (upR (upR (upR (upR (upR (upR (upR (upR (upR (upR (upR (upR (upR (upR (upR (upR (upR (upR (upR (upR (upR (upR (upR (upR (upR (upR (upR (upR R 280 4 (some 281)) 280 5 (some 282)) 280 6 (some 283)) 280 7 (some 284)) 280 8 (some 285)) 280 9 (some 286)) 280 10 (some 287)) 280 11 (some 288)) 280 12 (some 289)) 280 21 (some 290)) 280 22 (some 291)) 280 23 (some 292)) 280 24 (some 293)) 280 25 (some 294)) 280 26 (some 295)) 280 29 (some 296)) 280 30 (some 297)) 280 31 (some 298)) 280 32 (some 299)) 280 33 (some 300)) 280 34 (some 301)) 280 35 (some 302)) 280 36 (some 303)) 280 37 (some 304)) 280 38 (some 305)) 280 39 (some 306)) 280 40 (some 307)) 280 41 (some 308)) 280 42 (some 309)) 280 44 (some 310)) 280 45 (some 311)) 280 46 (some 312)) 280 47 (some 313)) 280 48 (some 314)) 280 49 (some 315)) 280 50 (some 316)) 280 51 (some 317)) 280 52 (some 318)) 280 53 (some 319)) 280 62 (some 320)) 280 63 (some 321)) 280 64 (some 322)) 280 65 (some 323)) 280 66 (some 324)) 280 67 (some 325)) 280 76 (some 326)), (upI I 280 59 (5 : Int32)), L))) (b := true) rfl rfl ?_
  have hF := hF.uR (c := 280) (i := 76) (v := some 326) (by decide)
  refine Rc.goL mt_1200 1 (f2 := (404, [.ref 280, UU], [.int (16 : Int32), .ref 280], (327, (upR (upR (upR (upR (upR (upR (upR (upR (upR (upR (upR (upR (upR (upR (upR (upR (upR (upR (upR (upR (upR (upR (upR (upR (upR (upR (upR (upR (upR (upR (upR (upR (upR (upR (upR (upR (upR (upR (upR (upR (upR (upR (upR (upR (upR (upR R 280 4 (some 281)) 280 5 (some 282)) 280 6 (some 283)) 280 7 (some 284)) 280 8 (some 285)) 280 9 (some 286)) 280 10 (some 287)) 280 11 (some 288)) 280 12 (some 289)) 280 21 (some 290)) 280 22 (some 291)) 280 23 (some 292)) 280 24 (some 293)) 280 25 (some 294)) 280 26 (some 295)) 280 29 (some 296)) 280 30 (some 297)) 280 31 (some 298)) 280 32 (some 299)) 280 33 (some 300)) 280 34 (some 301)) 280 35 (some 302)) 280 36 (some 303)) 280 37 (some 304)) 280 38 (some 305)) 280 39 (some 306)) 280 40 (some 307)) 280 41 (some 308)) 280 42 (some 309)) 280 44 (some 310)) 280 45 (some 311)) 280 46 (some 312)) 280 47 (some 313)) 280 48 (some 314)) 280 49 (some 315)) 280 50 (some 316)) 280 51 (some 317)) 280 52 (some 318)) 280 53 (some 319)) 280 62 (some 320)) 280 63 (some 321)) 280 64 (some 322)) 280 65 (some 323)) 280 66 (some 324)) 280 67 (some 325)) 280 76 (some 326)), (upI I 280 59 (5 : Int32)), L))) (b := true) rfl rfl ?_
  refine Rc.goL mt_1200 0 (f2 := (406, [.ref 280, UU], [.ref 327, .ref 280], nw (327, (upR (upR (upR (upR (upR (upR (upR (upR (upR (upR (upR (upR (upR (upR (upR (upR (upR (upR (upR (upR (upR (upR (upR (upR (upR (upR (upR (upR (upR (upR (upR (upR (upR (upR (upR (upR (upR (upR (upR (upR (upR (upR (upR (upR (upR (upR R 280 4 (some 281)) 280 5 (some 282)) 280 6 (some 283)) 280 7 (some 284)) 280 8 (some 285)) 280 9 (some 286)) 280 10 (some 287)) 280 11 (some 288)) 280 12 (some 289)) 280 21 (some 290)) 280 22 (some 291)) 280 23 (some 292)) 280 24 (some 293)) 280 25 (some 294)) 280 26 (some 295)) 280 29 (some 296)) 280 30 (some 297)) 280 31 (some 298)) 280 32 (some 299)) 280 33 (some 300)) 280 34 (some 301)) 280 35 (some 302)) 280 36 (some 303)) 280 37 (some 304)) 280 38 (some 305)) 280 39 (some 306)) 280 40 (some 307)) 280 41 (some 308)) 280 42 (some 309)) 280 44 (some 310)) 280 45 (some 311)) 280 46 (some 312)) 280 47 (some 313)) 280 48 (some 314)) 280 49 (some 315)) 280 50 (some 316)) 280 51 (some 317)) 280 52 (some 318)) 280 53 (some 319)) 280 62 (some 320)) 280 63 (some 321)) 280 64 (some 322)) 280 65 (some 323)) 280 66 (some 324)) 280 67 (some 325)) 280 76 (some 326)), (upI I 280 59 (5 : Int32)), L))) (b := ((Nat.beq (K0 327) (kAT .int) && decide (¬ (16 : Int32) < 0) && Nat.beq (Int32.toNatClampNeg (16 : Int32)) (Z0 327)) && true)) rfl (by decide +kernel) ?_
  rw [(hF.mk1 (m := 328) rfl (by decide)).1]
  have hF := (hF.mk1 (m := 328) rfl (by decide)).2
  refine Rc.goL mt_1200 0 (f2 := (409, [.ref 280, UU], [], (328, (upR (upR (upR (upR (upR (upR (upR (upR (upR (upR (upR (upR (upR (upR (upR (upR (upR (upR (upR (upR (upR (upR (upR (upR (upR (upR (upR (upR (upR (upR (upR (upR (upR (upR (upR (upR (upR (upR (upR (upR (upR (upR (upR (upR (upR (upR (upR R 280 4 (some 281)) 280 5 (some 282)) 280 6 (some 283)) 280 7 (some 284)) 280 8 (some 285)) 280 9 (some 286)) 280 10 (some 287)) 280 11 (some 288)) 280 12 (some 289)) 280 21 (some 290)) 280 22 (some 291)) 280 23 (some 292)) 280 24 (some 293)) 280 25 (some 294)) 280 26 (some 295)) 280 29 (some 296)) 280 30 (some 297)) 280 31 (some 298)) 280 32 (some 299)) 280 33 (some 300)) 280 34 (some 301)) 280 35 (some 302)) 280 36 (some 303)) 280 37 (some 304)) 280 38 (some 305)) 280 39 (some 306)) 280 40 (some 307)) 280 41 (some 308)) 280 42 (some 309)) 280 44 (some 310)) 280 45 (some 311)) 280 46 (some 312)) 280 47 (some 313)) 280 48 (some 314)) 280 49 (some 315)) 280 50 (some 316)) 280 51 (some 317)) 280 52 (some 318)) 280 53 (some 319)) 280 62 (some 320)) 280 63 (some 321)) 280 64 (some 322)) 280 65 (some 323)) 280 66 (some 324)) 280 67 (some 325)) 280 76 (some 326)) 280 77 (some 327)), (upI I 280 59 (5 : Int32)), L))) (b := true) rfl rfl ?_
  have hF := hF.uR (c := 280) (i := 77) (v := some 327) (by decide)
  refine Rc.goL mt_1200 1 (f2 := (413, [.ref 280, UU], [.int (250 : Int32), .ref 280], (328, (upR (upR (upR (upR (upR (upR (upR (upR (upR (upR (upR (upR (upR (upR (upR (upR (upR (upR (upR (upR (upR (upR (upR (upR (upR (upR (upR (upR (upR (upR (upR (upR (upR (upR (upR (upR (upR (upR (upR (upR (upR (upR (upR (upR (upR (upR (upR R 280 4 (some 281)) 280 5 (some 282)) 280 6 (some 283)) 280 7 (some 284)) 280 8 (some 285)) 280 9 (some 286)) 280 10 (some 287)) 280 11 (some 288)) 280 12 (some 289)) 280 21 (some 290)) 280 22 (some 291)) 280 23 (some 292)) 280 24 (some 293)) 280 25 (some 294)) 280 26 (some 295)) 280 29 (some 296)) 280 30 (some 297)) 280 31 (some 298)) 280 32 (some 299)) 280 33 (some 300)) 280 34 (some 301)) 280 35 (some 302)) 280 36 (some 303)) 280 37 (some 304)) 280 38 (some 305)) 280 39 (some 306)) 280 40 (some 307)) 280 41 (some 308)) 280 42 (some 309)) 280 44 (some 310)) 280 45 (some 311)) 280 46 (some 312)) 280 47 (some 313)) 280 48 (some 314)) 280 49 (some 315)) 280 50 (some 316)) 280 51 (some 317)) 280 52 (some 318)) 280 53 (some 319)) 280 62 (some 320)) 280 63 (some 321)) 280 64 (some 322)) 280 65 (some 323)) 280 66 (some 324)) 280 67 (some 325)) 280 76 (some 326)) 280 77 (some 327)), (upI I 280 59 (5 : Int32)), L))) (b := true) rfl rfl ?_
  refine Rc.goL mt_1200 0 (f2 := (415, [.ref 280, UU], [.ref 328, .ref 280], nw (328, (upR (upR (upR (upR (upR (upR (upR (upR (upR (upR (upR (upR (upR (upR (upR (upR (upR (upR (upR (upR (upR (upR (upR (upR (upR (upR (upR (upR (upR (upR (upR (upR (upR (upR (upR (upR (upR (upR (upR (upR (upR (upR (upR (upR (upR (upR (upR R 280 4 (some 281)) 280 5 (some 282)) 280 6 (some 283)) 280 7 (some 284)) 280 8 (some 285)) 280 9 (some 286)) 280 10 (some 287)) 280 11 (some 288)) 280 12 (some 289)) 280 21 (some 290)) 280 22 (some 291)) 280 23 (some 292)) 280 24 (some 293)) 280 25 (some 294)) 280 26 (some 295)) 280 29 (some 296)) 280 30 (some 297)) 280 31 (some 298)) 280 32 (some 299)) 280 33 (some 300)) 280 34 (some 301)) 280 35 (some 302)) 280 36 (some 303)) 280 37 (some 304)) 280 38 (some 305)) 280 39 (some 306)) 280 40 (some 307)) 280 41 (some 308)) 280 42 (some 309)) 280 44 (some 310)) 280 45 (some 311)) 280 46 (some 312)) 280 47 (some 313)) 280 48 (some 314)) 280 49 (some 315)) 280 50 (some 316)) 280 51 (some 317)) 280 52 (some 318)) 280 53 (some 319)) 280 62 (some 320)) 280 63 (some 321)) 280 64 (some 322)) 280 65 (some 323)) 280 66 (some 324)) 280 67 (some 325)) 280 76 (some 326)) 280 77 (some 327)), (upI I 280 59 (5 : Int32)), L))) (b := ((Nat.beq (K0 328) (kAT .long) && decide (¬ (250 : Int32) < 0) && Nat.beq (Int32.toNatClampNeg (250 : Int32)) (Z0 328)) && true)) rfl (by decide +kernel) ?_
  rw [(hF.mk1 (m := 329) rfl (by decide)).1]
  have hF := (hF.mk1 (m := 329) rfl (by decide)).2
  refine Rc.goL mt_1200 0 (f2 := (418, [.ref 280, UU], [], (329, (upR (upR (upR (upR (upR (upR (upR (upR (upR (upR (upR (upR (upR (upR (upR (upR (upR (upR (upR (upR (upR (upR (upR (upR (upR (upR (upR (upR (upR (upR (upR (upR (upR (upR (upR (upR (upR (upR (upR (upR (upR (upR (upR (upR (upR (upR (upR (upR R 280 4 (some 281)) 280 5 (some 282)) 280 6 (some 283)) 280 7 (some 284)) 280 8 (some 285)) 280 9 (some 286)) 280 10 (some 287)) 280 11 (some 288)) 280 12 (some 289)) 280 21 (some 290)) 280 22 (some 291)) 280 23 (some 292)) 280 24 (some 293)) 280 25 (some 294)) 280 26 (some 295)) 280 29 (some 296)) 280 30 (some 297)) 280 31 (some 298)) 280 32 (some 299)) 280 33 (some 300)) 280 34 (some 301)) 280 35 (some 302)) 280 36 (some 303)) 280 37 (some 304)) 280 38 (some 305)) 280 39 (some 306)) 280 40 (some 307)) 280 41 (some 308)) 280 42 (some 309)) 280 44 (some 310)) 280 45 (some 311)) 280 46 (some 312)) 280 47 (some 313)) 280 48 (some 314)) 280 49 (some 315)) 280 50 (some 316)) 280 51 (some 317)) 280 52 (some 318)) 280 53 (some 319)) 280 62 (some 320)) 280 63 (some 321)) 280 64 (some 322)) 280 65 (some 323)) 280 66 (some 324)) 280 67 (some 325)) 280 76 (some 326)) 280 77 (some 327)) 280 78 (some 328)), (upI I 280 59 (5 : Int32)), L))) (b := true) rfl rfl ?_
  have hF := hF.uR (c := 280) (i := 78) (v := some 328) (by decide)
  refine Rc.goL mt_1200 1 (f2 := (422, [.ref 280, UU], [.int (671 : Int32), .ref 280], (329, (upR (upR (upR (upR (upR (upR (upR (upR (upR (upR (upR (upR (upR (upR (upR (upR (upR (upR (upR (upR (upR (upR (upR (upR (upR (upR (upR (upR (upR (upR (upR (upR (upR (upR (upR (upR (upR (upR (upR (upR (upR (upR (upR (upR (upR (upR (upR (upR R 280 4 (some 281)) 280 5 (some 282)) 280 6 (some 283)) 280 7 (some 284)) 280 8 (some 285)) 280 9 (some 286)) 280 10 (some 287)) 280 11 (some 288)) 280 12 (some 289)) 280 21 (some 290)) 280 22 (some 291)) 280 23 (some 292)) 280 24 (some 293)) 280 25 (some 294)) 280 26 (some 295)) 280 29 (some 296)) 280 30 (some 297)) 280 31 (some 298)) 280 32 (some 299)) 280 33 (some 300)) 280 34 (some 301)) 280 35 (some 302)) 280 36 (some 303)) 280 37 (some 304)) 280 38 (some 305)) 280 39 (some 306)) 280 40 (some 307)) 280 41 (some 308)) 280 42 (some 309)) 280 44 (some 310)) 280 45 (some 311)) 280 46 (some 312)) 280 47 (some 313)) 280 48 (some 314)) 280 49 (some 315)) 280 50 (some 316)) 280 51 (some 317)) 280 52 (some 318)) 280 53 (some 319)) 280 62 (some 320)) 280 63 (some 321)) 280 64 (some 322)) 280 65 (some 323)) 280 66 (some 324)) 280 67 (some 325)) 280 76 (some 326)) 280 77 (some 327)) 280 78 (some 328)), (upI I 280 59 (5 : Int32)), L))) (b := true) rfl rfl ?_
  refine Rc.goL mt_1200 0 (f2 := (424, [.ref 280, UU], [.ref 329, .ref 280], nw (329, (upR (upR (upR (upR (upR (upR (upR (upR (upR (upR (upR (upR (upR (upR (upR (upR (upR (upR (upR (upR (upR (upR (upR (upR (upR (upR (upR (upR (upR (upR (upR (upR (upR (upR (upR (upR (upR (upR (upR (upR (upR (upR (upR (upR (upR (upR (upR (upR R 280 4 (some 281)) 280 5 (some 282)) 280 6 (some 283)) 280 7 (some 284)) 280 8 (some 285)) 280 9 (some 286)) 280 10 (some 287)) 280 11 (some 288)) 280 12 (some 289)) 280 21 (some 290)) 280 22 (some 291)) 280 23 (some 292)) 280 24 (some 293)) 280 25 (some 294)) 280 26 (some 295)) 280 29 (some 296)) 280 30 (some 297)) 280 31 (some 298)) 280 32 (some 299)) 280 33 (some 300)) 280 34 (some 301)) 280 35 (some 302)) 280 36 (some 303)) 280 37 (some 304)) 280 38 (some 305)) 280 39 (some 306)) 280 40 (some 307)) 280 41 (some 308)) 280 42 (some 309)) 280 44 (some 310)) 280 45 (some 311)) 280 46 (some 312)) 280 47 (some 313)) 280 48 (some 314)) 280 49 (some 315)) 280 50 (some 316)) 280 51 (some 317)) 280 52 (some 318)) 280 53 (some 319)) 280 62 (some 320)) 280 63 (some 321)) 280 64 (some 322)) 280 65 (some 323)) 280 66 (some 324)) 280 67 (some 325)) 280 76 (some 326)) 280 77 (some 327)) 280 78 (some 328)), (upI I 280 59 (5 : Int32)), L))) (b := ((Nat.beq (K0 329) (kAT .long) && decide (¬ (671 : Int32) < 0) && Nat.beq (Int32.toNatClampNeg (671 : Int32)) (Z0 329)) && true)) rfl (by decide +kernel) ?_
  rw [(hF.mk1 (m := 330) rfl (by decide)).1]
  have hF := (hF.mk1 (m := 330) rfl (by decide)).2
  refine Rc.goL mt_1200 0 (f2 := (427, [.ref 280, UU], [], (330, (upR (upR (upR (upR (upR (upR (upR (upR (upR (upR (upR (upR (upR (upR (upR (upR (upR (upR (upR (upR (upR (upR (upR (upR (upR (upR (upR (upR (upR (upR (upR (upR (upR (upR (upR (upR (upR (upR (upR (upR (upR (upR (upR (upR (upR (upR (upR (upR (upR R 280 4 (some 281)) 280 5 (some 282)) 280 6 (some 283)) 280 7 (some 284)) 280 8 (some 285)) 280 9 (some 286)) 280 10 (some 287)) 280 11 (some 288)) 280 12 (some 289)) 280 21 (some 290)) 280 22 (some 291)) 280 23 (some 292)) 280 24 (some 293)) 280 25 (some 294)) 280 26 (some 295)) 280 29 (some 296)) 280 30 (some 297)) 280 31 (some 298)) 280 32 (some 299)) 280 33 (some 300)) 280 34 (some 301)) 280 35 (some 302)) 280 36 (some 303)) 280 37 (some 304)) 280 38 (some 305)) 280 39 (some 306)) 280 40 (some 307)) 280 41 (some 308)) 280 42 (some 309)) 280 44 (some 310)) 280 45 (some 311)) 280 46 (some 312)) 280 47 (some 313)) 280 48 (some 314)) 280 49 (some 315)) 280 50 (some 316)) 280 51 (some 317)) 280 52 (some 318)) 280 53 (some 319)) 280 62 (some 320)) 280 63 (some 321)) 280 64 (some 322)) 280 65 (some 323)) 280 66 (some 324)) 280 67 (some 325)) 280 76 (some 326)) 280 77 (some 327)) 280 78 (some 328)) 280 79 (some 329)), (upI I 280 59 (5 : Int32)), L))) (b := true) rfl rfl ?_
  have hF := hF.uR (c := 280) (i := 79) (v := some 329) (by decide)
  refine Rc.goL mt_1200 1 (f2 := (430, [.ref 280, UU], [.int (40 : Int32), .ref 280], (330, (upR (upR (upR (upR (upR (upR (upR (upR (upR (upR (upR (upR (upR (upR (upR (upR (upR (upR (upR (upR (upR (upR (upR (upR (upR (upR (upR (upR (upR (upR (upR (upR (upR (upR (upR (upR (upR (upR (upR (upR (upR (upR (upR (upR (upR (upR (upR (upR (upR R 280 4 (some 281)) 280 5 (some 282)) 280 6 (some 283)) 280 7 (some 284)) 280 8 (some 285)) 280 9 (some 286)) 280 10 (some 287)) 280 11 (some 288)) 280 12 (some 289)) 280 21 (some 290)) 280 22 (some 291)) 280 23 (some 292)) 280 24 (some 293)) 280 25 (some 294)) 280 26 (some 295)) 280 29 (some 296)) 280 30 (some 297)) 280 31 (some 298)) 280 32 (some 299)) 280 33 (some 300)) 280 34 (some 301)) 280 35 (some 302)) 280 36 (some 303)) 280 37 (some 304)) 280 38 (some 305)) 280 39 (some 306)) 280 40 (some 307)) 280 41 (some 308)) 280 42 (some 309)) 280 44 (some 310)) 280 45 (some 311)) 280 46 (some 312)) 280 47 (some 313)) 280 48 (some 314)) 280 49 (some 315)) 280 50 (some 316)) 280 51 (some 317)) 280 52 (some 318)) 280 53 (some 319)) 280 62 (some 320)) 280 63 (some 321)) 280 64 (some 322)) 280 65 (some 323)) 280 66 (some 324)) 280 67 (some 325)) 280 76 (some 326)) 280 77 (some 327)) 280 78 (some 328)) 280 79 (some 329)), (upI I 280 59 (5 : Int32)), L))) (b := true) rfl rfl ?_
  refine Rc.goL mt_1200 0 (f2 := (432, [.ref 280, UU], [.ref 330, .ref 280], nw (330, (upR (upR (upR (upR (upR (upR (upR (upR (upR (upR (upR (upR (upR (upR (upR (upR (upR (upR (upR (upR (upR (upR (upR (upR (upR (upR (upR (upR (upR (upR (upR (upR (upR (upR (upR (upR (upR (upR (upR (upR (upR (upR (upR (upR (upR (upR (upR (upR (upR R 280 4 (some 281)) 280 5 (some 282)) 280 6 (some 283)) 280 7 (some 284)) 280 8 (some 285)) 280 9 (some 286)) 280 10 (some 287)) 280 11 (some 288)) 280 12 (some 289)) 280 21 (some 290)) 280 22 (some 291)) 280 23 (some 292)) 280 24 (some 293)) 280 25 (some 294)) 280 26 (some 295)) 280 29 (some 296)) 280 30 (some 297)) 280 31 (some 298)) 280 32 (some 299)) 280 33 (some 300)) 280 34 (some 301)) 280 35 (some 302)) 280 36 (some 303)) 280 37 (some 304)) 280 38 (some 305)) 280 39 (some 306)) 280 40 (some 307)) 280 41 (some 308)) 280 42 (some 309)) 280 44 (some 310)) 280 45 (some 311)) 280 46 (some 312)) 280 47 (some 313)) 280 48 (some 314)) 280 49 (some 315)) 280 50 (some 316)) 280 51 (some 317)) 280 52 (some 318)) 280 53 (some 319)) 280 62 (some 320)) 280 63 (some 321)) 280 64 (some 322)) 280 65 (some 323)) 280 66 (some 324)) 280 67 (some 325)) 280 76 (some 326)) 280 77 (some 327)) 280 78 (some 328)) 280 79 (some 329)), (upI I 280 59 (5 : Int32)), L))) (b := ((Nat.beq (K0 330) (kAT .int) && decide (¬ (40 : Int32) < 0) && Nat.beq (Int32.toNatClampNeg (40 : Int32)) (Z0 330)) && true)) rfl (by decide +kernel) ?_
  rw [(hF.mk1 (m := 331) rfl (by decide)).1]
  have hF := (hF.mk1 (m := 331) rfl (by decide)).2
  refine Rc.goL mt_1200 0 (f2 := (435, [.ref 280, UU], [], (331, (upR (upR (upR (upR (upR (upR (upR (upR (upR (upR (upR (upR (upR (upR (upR (upR (upR (upR (upR (upR (upR (upR (upR (upR (upR (upR (upR (upR (upR (upR (upR (upR (upR (upR (upR (upR (upR (upR (upR (upR (upR (upR (upR (upR (upR (upR (upR (upR (upR (upR R 280 4 (some 281)) 280 5 (some 282)) 280 6 (some 283)) 280 7 (some 284)) 280 8 (some 285)) 280 9 (some 286)) 280 10 (some 287)) 280 11 (some 288)) 280 12 (some 289)) 280 21 (some 290)) 280 22 (some 291)) 280 23 (some 292)) 280 24 (some 293)) 280 25 (some 294)) 280 26 (some 295)) 280 29 (some 296)) 280 30 (some 297)) 280 31 (some 298)) 280 32 (some 299)) 280 33 (some 300)) 280 34 (some 301)) 280 35 (some 302)) 280 36 (some 303)) 280 37 (some 304)) 280 38 (some 305)) 280 39 (some 306)) 280 40 (some 307)) 280 41 (some 308)) 280 42 (some 309)) 280 44 (some 310)) 280 45 (some 311)) 280 46 (some 312)) 280 47 (some 313)) 280 48 (some 314)) 280 49 (some 315)) 280 50 (some 316)) 280 51 (some 317)) 280 52 (some 318)) 280 53 (some 319)) 280 62 (some 320)) 280 63 (some 321)) 280 64 (some 322)) 280 65 (some 323)) 280 66 (some 324)) 280 67 (some 325)) 280 76 (some 326)) 280 77 (some 327)) 280 78 (some 328)) 280 79 (some 329)) 280 81 (some 330)), (upI I 280 59 (5 : Int32)), L))) (b := true) rfl rfl ?_
  have hF := hF.uR (c := 280) (i := 81) (v := some 330) (by decide)
  refine Rc.goL mt_1200 1 (f2 := (438, [.ref 280, UU], [.int (40 : Int32), .ref 280], (331, (upR (upR (upR (upR (upR (upR (upR (upR (upR (upR (upR (upR (upR (upR (upR (upR (upR (upR (upR (upR (upR (upR (upR (upR (upR (upR (upR (upR (upR (upR (upR (upR (upR (upR (upR (upR (upR (upR (upR (upR (upR (upR (upR (upR (upR (upR (upR (upR (upR (upR R 280 4 (some 281)) 280 5 (some 282)) 280 6 (some 283)) 280 7 (some 284)) 280 8 (some 285)) 280 9 (some 286)) 280 10 (some 287)) 280 11 (some 288)) 280 12 (some 289)) 280 21 (some 290)) 280 22 (some 291)) 280 23 (some 292)) 280 24 (some 293)) 280 25 (some 294)) 280 26 (some 295)) 280 29 (some 296)) 280 30 (some 297)) 280 31 (some 298)) 280 32 (some 299)) 280 33 (some 300)) 280 34 (some 301)) 280 35 (some 302)) 280 36 (some 303)) 280 37 (some 304)) 280 38 (some 305)) 280 39 (some 306)) 280 40 (some 307)) 280 41 (some 308)) 280 42 (some 309)) 280 44 (some 310)) 280 45 (some 311)) 280 46 (some 312)) 280 47 (some 313)) 280 48 (some 314)) 280 49 (some 315)) 280 50 (some 316)) 280 51 (some 317)) 280 52 (some 318)) 280 53 (some 319)) 280 62 (some 320)) 280 63 (some 321)) 280 64 (some 322)) 280 65 (some 323)) 280 66 (some 324)) 280 67 (some 325)) 280 76 (some 326)) 280 77 (some 327)) 280 78 (some 328)) 280 79 (some 329)) 280 81 (some 330)), (upI I 280 59 (5 : Int32)), L))) (b := true) rfl rfl ?_
  refine Rc.goL mt_1200 0 (f2 := (440, [.ref 280, UU], [.ref 331, .ref 280], nw (331, (upR (upR (upR (upR (upR (upR (upR (upR (upR (upR (upR (upR (upR (upR (upR (upR (upR (upR (upR (upR (upR (upR (upR (upR (upR (upR (upR (upR (upR (upR (upR (upR (upR (upR (upR (upR (upR (upR (upR (upR (upR (upR (upR (upR (upR (upR (upR (upR (upR (upR R 280 4 (some 281)) 280 5 (some 282)) 280 6 (some 283)) 280 7 (some 284)) 280 8 (some 285)) 280 9 (some 286)) 280 10 (some 287)) 280 11 (some 288)) 280 12 (some 289)) 280 21 (some 290)) 280 22 (some 291)) 280 23 (some 292)) 280 24 (some 293)) 280 25 (some 294)) 280 26 (some 295)) 280 29 (some 296)) 280 30 (some 297)) 280 31 (some 298)) 280 32 (some 299)) 280 33 (some 300)) 280 34 (some 301)) 280 35 (some 302)) 280 36 (some 303)) 280 37 (some 304)) 280 38 (some 305)) 280 39 (some 306)) 280 40 (some 307)) 280 41 (some 308)) 280 42 (some 309)) 280 44 (some 310)) 280 45 (some 311)) 280 46 (some 312)) 280 47 (some 313)) 280 48 (some 314)) 280 49 (some 315)) 280 50 (some 316)) 280 51 (some 317)) 280 52 (some 318)) 280 53 (some 319)) 280 62 (some 320)) 280 63 (some 321)) 280 64 (some 322)) 280 65 (some 323)) 280 66 (some 324)) 280 67 (some 325)) 280 76 (some 326)) 280 77 (some 327)) 280 78 (some 328)) 280 79 (some 329)) 280 81 (some 330)), (upI I 280 59 (5 : Int32)), L))) (b := ((Nat.beq (K0 331) (kAT .int) && decide (¬ (40 : Int32) < 0) && Nat.beq (Int32.toNatClampNeg (40 : Int32)) (Z0 331)) && true)) rfl (by decide +kernel) ?_
  rw [(hF.mk1 (m := 332) rfl (by decide)).1]
  have hF := (hF.mk1 (m := 332) rfl (by decide)).2
  refine Rc.goL mt_1200 0 (f2 := (443, [.ref 280, UU], [], (332, (upR (upR (upR (upR (upR (upR (upR (upR (upR (upR (upR (upR (upR (upR (upR (upR (upR (upR (upR (upR (upR (upR (upR (upR (upR (upR (upR (upR (upR (upR (upR (upR (upR (upR (upR (upR (upR (upR (upR (upR (upR (upR (upR (upR (upR (upR (upR (upR (upR (upR (upR R 280 4 (some 281)) 280 5 (some 282)) 280 6 (some 283)) 280 7 (some 284)) 280 8 (some 285)) 280 9 (some 286)) 280 10 (some 287)) 280 11 (some 288)) 280 12 (some 289)) 280 21 (some 290)) 280 22 (some 291)) 280 23 (some 292)) 280 24 (some 293)) 280 25 (some 294)) 280 26 (some 295)) 280 29 (some 296)) 280 30 (some 297)) 280 31 (some 298)) 280 32 (some 299)) 280 33 (some 300)) 280 34 (some 301)) 280 35 (some 302)) 280 36 (some 303)) 280 37 (some 304)) 280 38 (some 305)) 280 39 (some 306)) 280 40 (some 307)) 280 41 (some 308)) 280 42 (some 309)) 280 44 (some 310)) 280 45 (some 311)) 280 46 (some 312)) 280 47 (some 313)) 280 48 (some 314)) 280 49 (some 315)) 280 50 (some 316)) 280 51 (some 317)) 280 52 (some 318)) 280 53 (some 319)) 280 62 (some 320)) 280 63 (some 321)) 280 64 (some 322)) 280 65 (some 323)) 280 66 (some 324)) 280 67 (some 325)) 280 76 (some 326)) 280 77 (some 327)) 280 78 (some 328)) 280 79 (some 329)) 280 81 (some 330)) 280 82 (some 331)), (upI I 280 59 (5 : Int32)), L))) (b := true) rfl rfl ?_
  have hF := hF.uR (c := 280) (i := 82) (v := some 331) (by decide)
  refine Rc.goL mt_1200 1 (f2 := (446, [.ref 280, UU], [.int (18 : Int32), .ref 280], (332, (upR (upR (upR (upR (upR (upR (upR (upR (upR (upR (upR (upR (upR (upR (upR (upR (upR (upR (upR (upR (upR (upR (upR (upR (upR (upR (upR (upR (upR (upR (upR (upR (upR (upR (upR (upR (upR (upR (upR (upR (upR (upR (upR (upR (upR (upR (upR (upR (upR (upR (upR R 280 4 (some 281)) 280 5 (some 282)) 280 6 (some 283)) 280 7 (some 284)) 280 8 (some 285)) 280 9 (some 286)) 280 10 (some 287)) 280 11 (some 288)) 280 12 (some 289)) 280 21 (some 290)) 280 22 (some 291)) 280 23 (some 292)) 280 24 (some 293)) 280 25 (some 294)) 280 26 (some 295)) 280 29 (some 296)) 280 30 (some 297)) 280 31 (some 298)) 280 32 (some 299)) 280 33 (some 300)) 280 34 (some 301)) 280 35 (some 302)) 280 36 (some 303)) 280 37 (some 304)) 280 38 (some 305)) 280 39 (some 306)) 280 40 (some 307)) 280 41 (some 308)) 280 42 (some 309)) 280 44 (some 310)) 280 45 (some 311)) 280 46 (some 312)) 280 47 (some 313)) 280 48 (some 314)) 280 49 (some 315)) 280 50 (some 316)) 280 51 (some 317)) 280 52 (some 318)) 280 53 (some 319)) 280 62 (some 320)) 280 63 (some 321)) 280 64 (some 322)) 280 65 (some 323)) 280 66 (some 324)) 280 67 (some 325)) 280 76 (some 326)) 280 77 (some 327)) 280 78 (some 328)) 280 79 (some 329)) 280 81 (some 330)) 280 82 (some 331)), (upI I 280 59 (5 : Int32)), L))) (b := true) rfl rfl ?_
  refine Rc.goL mt_1200 0 (f2 := (448, [.ref 280, UU], [.ref 332, .ref 280], nw (332, (upR (upR (upR (upR (upR (upR (upR (upR (upR (upR (upR (upR (upR (upR (upR (upR (upR (upR (upR (upR (upR (upR (upR (upR (upR (upR (upR (upR (upR (upR (upR (upR (upR (upR (upR (upR (upR (upR (upR (upR (upR (upR (upR (upR (upR (upR (upR (upR (upR (upR (upR R 280 4 (some 281)) 280 5 (some 282)) 280 6 (some 283)) 280 7 (some 284)) 280 8 (some 285)) 280 9 (some 286)) 280 10 (some 287)) 280 11 (some 288)) 280 12 (some 289)) 280 21 (some 290)) 280 22 (some 291)) 280 23 (some 292)) 280 24 (some 293)) 280 25 (some 294)) 280 26 (some 295)) 280 29 (some 296)) 280 30 (some 297)) 280 31 (some 298)) 280 32 (some 299)) 280 33 (some 300)) 280 34 (some 301)) 280 35 (some 302)) 280 36 (some 303)) 280 37 (some 304)) 280 38 (some 305)) 280 39 (some 306)) 280 40 (some 307)) 280 41 (some 308)) 280 42 (some 309)) 280 44 (some 310)) 280 45 (some 311)) 280 46 (some 312)) 280 47 (some 313)) 280 48 (some 314)) 280 49 (some 315)) 280 50 (some 316)) 280 51 (some 317)) 280 52 (some 318)) 280 53 (some 319)) 280 62 (some 320)) 280 63 (some 321)) 280 64 (some 322)) 280 65 (some 323)) 280 66 (some 324)) 280 67 (some 325)) 280 76 (some 326)) 280 77 (some 327)) 280 78 (some 328)) 280 79 (some 329)) 280 81 (some 330)) 280 82 (some 331)), (upI I 280 59 (5 : Int32)), L))) (b := ((Nat.beq (K0 332) (kAT .long) && decide (¬ (18 : Int32) < 0) && Nat.beq (Int32.toNatClampNeg (18 : Int32)) (Z0 332)) && true)) rfl (by decide +kernel) ?_
  rw [(hF.mk1 (m := 333) rfl (by decide)).1]
  have hF := (hF.mk1 (m := 333) rfl (by decide)).2
  refine Rc.goL mt_1200 0 (f2 := (451, [.ref 280, UU], [], (333, (upR (upR (upR (upR (upR (upR (upR (upR (upR (upR (upR (upR (upR (upR (upR (upR (upR (upR (upR (upR (upR (upR (upR (upR (upR (upR (upR (upR (upR (upR (upR (upR (upR (upR (upR (upR (upR (upR (upR (upR (upR (upR (upR (upR (upR (upR (upR (upR (upR (upR (upR (upR R 280 4 (some 281)) 280 5 (some 282)) 280 6 (some 283)) 280 7 (some 284)) 280 8 (some 285)) 280 9 (some 286)) 280 10 (some 287)) 280 11 (some 288)) 280 12 (some 289)) 280 21 (some 290)) 280 22 (some 291)) 280 23 (some 292)) 280 24 (some 293)) 280 25 (some 294)) 280 26 (some 295)) 280 29 (some 296)) 280 30 (some 297)) 280 31 (some 298)) 280 32 (some 299)) 280 33 (some 300)) 280 34 (some 301)) 280 35 (some 302)) 280 36 (some 303)) 280 37 (some 304)) 280 38 (some 305)) 280 39 (some 306)) 280 40 (some 307)) 280 41 (some 308)) 280 42 (some 309)) 280 44 (some 310)) 280 45 (some 311)) 280 46 (some 312)) 280 47 (some 313)) 280 48 (some 314)) 280 49 (some 315)) 280 50 (some 316)) 280 51 (some 317)) 280 52 (some 318)) 280 53 (some 319)) 280 62 (some 320)) 280 63 (some 321)) 280 64 (some 322)) 280 65 (some 323)) 280 66 (some 324)) 280 67 (some 325)) 280 76 (some 326)) 280 77 (some 327)) 280 78 (some 328)) 280 79 (some 329)) 280 81 (some 330)) 280 82 (some 331)) 280 84 (some 332)), (upI I 280 59 (5 : Int32)), L))) (b := true) rfl rfl ?_
  have hF := hF.uR (c := 280) (i := 84) (v := some 332) (by decide)
  refine Rc.goL mt_1200 1 (f2 := (455, [.ref 280, UU], [.int (4096 : Int32), .ref 280], (333, (upR (upR (upR (upR (upR (upR (upR (upR (upR (upR (upR (upR (upR (upR (upR (upR (upR (upR (upR (upR (upR (upR (upR (upR (upR (upR (upR (upR (upR (upR (upR (upR (upR (upR (upR (upR (upR (upR (upR (upR (upR (upR (upR (upR (upR (upR (upR (upR (upR (upR (upR (upR R 280 4 (some 281)) 280 5 (some 282)) 280 6 (some 283)) 280 7 (some 284)) 280 8 (some 285)) 280 9 (some 286)) 280 10 (some 287)) 280 11 (some 288)) 280 12 (some 289)) 280 21 (some 290)) 280 22 (some 291)) 280 23 (some 292)) 280 24 (some 293)) 280 25 (some 294)) 280 26 (some 295)) 280 29 (some 296)) 280 30 (some 297)) 280 31 (some 298)) 280 32 (some 299)) 280 33 (some 300)) 280 34 (some 301)) 280 35 (some 302)) 280 36 (some 303)) 280 37 (some 304)) 280 38 (some 305)) 280 39 (some 306)) 280 40 (some 307)) 280 41 (some 308)) 280 42 (some 309)) 280 44 (some 310)) 280 45 (some 311)) 280 46 (some 312)) 280 47 (some 313)) 280 48 (some 314)) 280 49 (some 315)) 280 50 (some 316)) 280 51 (some 317)) 280 52 (some 318)) 280 53 (some 319)) 280 62 (some 320)) 280 63 (some 321)) 280 64 (some 322)) 280 65 (some 323)) 280 66 (some 324)) 280 67 (some 325)) 280 76 (some 326)) 280 77 (some 327)) 280 78 (some 328)) 280 79 (some 329)) 280 81 (some 330)) 280 82 (some 331)) 280 84 (some 332)), (upI I 280 59 (5 : Int32)), L))) (b := true) rfl rfl ?_
  refine Rc.goL mt_1200 0 (f2 := (457, [.ref 280, UU], [.ref 333, .ref 280], nw (333, (upR (upR (upR (upR (upR (upR (upR (upR (upR (upR (upR (upR (upR (upR (upR (upR (upR (upR (upR (upR (upR (upR (upR (upR (upR (upR (upR (upR (upR (upR (upR (upR (upR (upR (upR (upR (upR (upR (upR (upR (upR (upR (upR (upR (upR (upR (upR (upR (upR (upR (upR (upR R 280 4 (some 281)) 280 5 (some 282)) 280 6 (some 283)) 280 7 (some 284)) 280 8 (some 285)) 280 9 (some 286)) 280 10 (some 287)) 280 11 (some 288)) 280 12 (some 289)) 280 21 (some 290)) 280 22 (some 291)) 280 23 (some 292)) 280 24 (some 293)) 280 25 (some 294)) 280 26 (some 295)) 280 29 (some 296)) 280 30 (some 297)) 280 31 (some 298)) 280 32 (some 299)) 280 33 (some 300)) 280 34 (some 301)) 280 35 (some 302)) 280 36 (some 303)) 280 37 (some 304)) 280 38 (some 305)) 280 39 (some 306)) 280 40 (some 307)) 280 41 (some 308)) 280 42 (some 309)) 280 44 (some 310)) 280 45 (some 311)) 280 46 (some 312)) 280 47 (some 313)) 280 48 (some 314)) 280 49 (some 315)) 280 50 (some 316)) 280 51 (some 317)) 280 52 (some 318)) 280 53 (some 319)) 280 62 (some 320)) 280 63 (some 321)) 280 64 (some 322)) 280 65 (some 323)) 280 66 (some 324)) 280 67 (some 325)) 280 76 (some 326)) 280 77 (some 327)) 280 78 (some 328)) 280 79 (some 329)) 280 81 (some 330)) 280 82 (some 331)) 280 84 (some 332)), (upI I 280 59 (5 : Int32)), L))) (b := ((Nat.beq (K0 333) (kAT .long) && decide (¬ (4096 : Int32) < 0) && Nat.beq (Int32.toNatClampNeg (4096 : Int32)) (Z0 333)) && true)) rfl (by decide +kernel) ?_
  rw [(hF.mk1 (m := 334) rfl (by decide)).1]
  have hF := (hF.mk1 (m := 334) rfl (by decide)).2
  refine Rc.goL mt_1200 0 (f2 := (460, [.ref 280, UU], [], (334, (upR (upR (upR (upR (upR (upR (upR (upR (upR (upR (upR (upR (upR (upR (upR (upR (upR (upR (upR (upR (upR (upR (upR (upR (upR (upR (upR (upR (upR (upR (upR (upR (upR (upR (upR (upR (upR (upR (upR (upR (upR (upR (upR (upR (upR (upR (upR (upR (upR (upR (upR (upR (upR R 280 4 (some 281)) 280 5 (some 282)) 280 6 (some 283)) 280 7 (some 284)) 280 8 (some 285)) 280 9 (some 286)) 280 10 (some 287)) 280 11 (some 288)) 280 12 (some 289)) 280 21 (some 290)) 280 22 (some 291)) 280 23 (some 292)) 280 24 (some 293)) 280 25 (some 294)) 280 26 (some 295)) 280 29 (some 296)) 280 30 (some 297)) 280 31 (some 298)) 280 32 (some 299)) 280 33 (some 300)) 280 34 (some 301)) 280 35 (some 302)) 280 36 (some 303)) 280 37 (some 304)) 280 38 (some 305)) 280 39 (some 306)) 280 40 (some 307)) 280 41 (some 308)) 280 42 (some 309)) 280 44 (some 310)) 280 45 (some 311)) 280 46 (some 312)) 280 47 (some 313)) 280 48 (some 314)) 280 49 (some 315)) 280 50 (some 316)) 280 51 (some 317)) 280 52 (some 318)) 280 53 (some 319)) 280 62 (some 320)) 280 63 (some 321)) 280 64 (some 322)) 280 65 (some 323)) 280 66 (some 324)) 280 67 (some 325)) 280 76 (some 326)) 280 77 (some 327)) 280 78 (some 328)) 280 79 (some 329)) 280 81 (some 330)) 280 82 (some 331)) 280 84 (some 332)) 280 85 (some 333)), (upI I 280 59 (5 : Int32)), L))) (b := true) rfl rfl ?_
  have hF := hF.uR (c := 280) (i := 85) (v := some 333) (by decide)
  refine Rc.goL mt_1200 1 (f2 := (464, [.ref 280, UU], [.int (4096 : Int32), .ref 280], (334, (upR (upR (upR (upR (upR (upR (upR (upR (upR (upR (upR (upR (upR (upR (upR (upR (upR (upR (upR (upR (upR (upR (upR (upR (upR (upR (upR (upR (upR (upR (upR (upR (upR (upR (upR (upR (upR (upR (upR (upR (upR (upR (upR (upR (upR (upR (upR (upR (upR (upR (upR (upR (upR R 280 4 (some 281)) 280 5 (some 282)) 280 6 (some 283)) 280 7 (some 284)) 280 8 (some 285)) 280 9 (some 286)) 280 10 (some 287)) 280 11 (some 288)) 280 12 (some 289)) 280 21 (some 290)) 280 22 (some 291)) 280 23 (some 292)) 280 24 (some 293)) 280 25 (some 294)) 280 26 (some 295)) 280 29 (some 296)) 280 30 (some 297)) 280 31 (some 298)) 280 32 (some 299)) 280 33 (some 300)) 280 34 (some 301)) 280 35 (some 302)) 280 36 (some 303)) 280 37 (some 304)) 280 38 (some 305)) 280 39 (some 306)) 280 40 (some 307)) 280 41 (some 308)) 280 42 (some 309)) 280 44 (some 310)) 280 45 (some 311)) 280 46 (some 312)) 280 47 (some 313)) 280 48 (some 314)) 280 49 (some 315)) 280 50 (some 316)) 280 51 (some 317)) 280 52 (some 318)) 280 53 (some 319)) 280 62 (some 320)) 280 63 (some 321)) 280 64 (some 322)) 280 65 (some 323)) 280 66 (some 324)) 280 67 (some 325)) 280 76 (some 326)) 280 77 (some 327)) 280 78 (some 328)) 280 79 (some 329)) 280 81 (some 330)) 280 82 (some 331)) 280 84 (some 332)) 280 85 (some 333)), (upI I 280 59 (5 : Int32)), L))) (b := true) rfl rfl ?_
  refine Rc.goL mt_1200 0 (f2 := (466, [.ref 280, UU], [.ref 334, .ref 280], nw (334, (upR (upR (upR (upR (upR (upR (upR (upR (upR (upR (upR (upR (upR (upR (upR (upR (upR (upR (upR (upR (upR (upR (upR (upR (upR (upR (upR (upR (upR (upR (upR (upR (upR (upR (upR (upR (upR (upR (upR (upR (upR (upR (upR (upR (upR (upR (upR (upR (upR (upR (upR (upR (upR R 280 4 (some 281)) 280 5 (some 282)) 280 6 (some 283)) 280 7 (some 284)) 280 8 (some 285)) 280 9 (some 286)) 280 10 (some 287)) 280 11 (some 288)) 280 12 (some 289)) 280 21 (some 290)) 280 22 (some 291)) 280 23 (some 292)) 280 24 (some 293)) 280 25 (some 294)) 280 26 (some 295)) 280 29 (some 296)) 280 30 (some 297)) 280 31 (some 298)) 280 32 (some 299)) 280 33 (some 300)) 280 34 (some 301)) 280 35 (some 302)) 280 36 (some 303)) 280 37 (some 304)) 280 38 (some 305)) 280 39 (some 306)) 280 40 (some 307)) 280 41 (some 308)) 280 42 (some 309)) 280 44 (some 310)) 280 45 (some 311)) 280 46 (some 312)) 280 47 (some 313)) 280 48 (some 314)) 280 49 (some 315)) 280 50 (some 316)) 280 51 (some 317)) 280 52 (some 318)) 280 53 (some 319)) 280 62 (some 320)) 280 63 (some 321)) 280 64 (some 322)) 280 65 (some 323)) 280 66 (some 324)) 280 67 (some 325)) 280 76 (some 326)) 280 77 (some 327)) 280 78 (some 328)) 280 79 (some 329)) 280 81 (some 330)) 280 82 (some 331)) 280 84 (some 332)) 280 85 (some 333)), (upI I 280 59 (5 : Int32)), L))) (b := ((Nat.beq (K0 334) (kAT .int) && decide (¬ (4096 : Int32) < 0) && Nat.beq (Int32.toNatClampNeg (4096 : Int32)) (Z0 334)) && true)) rfl (by decide +kernel) ?_
  rw [(hF.mk1 (m := 335) rfl (by decide)).1]
  have hF := (hF.mk1 (m := 335) rfl (by decide)).2
  refine Rc.goL mt_1200 0 (f2 := (469, [.ref 280, UU], [], (335, (upR (upR (upR (upR (upR (upR (upR (upR (upR (upR (upR (upR (upR (upR (upR (upR (upR (upR (upR (upR (upR (upR (upR (upR (upR (upR (upR (upR (upR (upR (upR (upR (upR (upR (upR (upR (upR (upR (upR (upR (upR (upR (upR (upR (upR (upR (upR (upR (upR (upR (upR (upR (upR (upR R 280 4 (some 281)) 280 5 (some 282)) 280 6 (some 283)) 280 7 (some 284)) 280 8 (some 285)) 280 9 (some 286)) 280 10 (some 287)) 280 11 (some 288)) 280 12 (some 289)) 280 21 (some 290)) 280 22 (some 291)) 280 23 (some 292)) 280 24 (some 293)) 280 25 (some 294)) 280 26 (some 295)) 280 29 (some 296)) 280 30 (some 297)) 280 31 (some 298)) 280 32 (some 299)) 280 33 (some 300)) 280 34 (some 301)) 280 35 (some 302)) 280 36 (some 303)) 280 37 (some 304)) 280 38 (some 305)) 280 39 (some 306)) 280 40 (some 307)) 280 41 (some 308)) 280 42 (some 309)) 280 44 (some 310)) 280 45 (some 311)) 280 46 (some 312)) 280 47 (some 313)) 280 48 (some 314)) 280 49 (some 315)) 280 50 (some 316)) 280 51 (some 317)) 280 52 (some 318)) 280 53 (some 319)) 280 62 (some 320)) 280 63 (some 321)) 280 64 (some 322)) 280 65 (some 323)) 280 66 (some 324)) 280 67 (some 325)) 280 76 (some 326)) 280 77 (some 327)) 280 78 (some 328)) 280 79 (some 329)) 280 81 (some 330)) 280 82 (some 331)) 280 84 (some 332)) 280 85 (some 333)) 280 86 (some 334)), (upI I 280 59 (5 : Int32)), L))) (b := true) rfl rfl ?_
  have hF := hF.uR (c := 280) (i := 86) (v := some 334) (by decide)
  refine Rc.goL mt_1200 1 (f2 := (472, [.ref 280, UU], [.int (12 : Int32), .ref 280], (335, (upR (upR (upR (upR (upR (upR (upR (upR (upR (upR (upR (upR (upR (upR (upR (upR (upR (upR (upR (upR (upR (upR (upR (upR (upR (upR (upR (upR (upR (upR (upR (upR (upR (upR (upR (upR (upR (upR (upR (upR (upR (upR (upR (upR (upR (upR (upR (upR (upR (upR (upR (upR (upR (upR R 280 4 (some 281)) 280 5 (some 282)) 280 6 (some 283)) 280 7 (some 284)) 280 8 (some 285)) 280 9 (some 286)) 280 10 (some 287)) 280 11 (some 288)) 280 12 (some 289)) 280 21 (some 290)) 280 22 (some 291)) 280 23 (some 292)) 280 24 (some 293)) 280 25 (some 294)) 280 26 (some 295)) 280 29 (some 296)) 280 30 (some 297)) 280 31 (some 298)) 280 32 (some 299)) 280 33 (some 300)) 280 34 (some 301)) 280 35 (some 302)) 280 36 (some 303)) 280 37 (some 304)) 280 38 (some 305)) 280 39 (some 306)) 280 40 (some 307)) 280 41 (some 308)) 280 42 (some 309)) 280 44 (some 310)) 280 45 (some 311)) 280 46 (some 312)) 280 47 (some 313)) 280 48 (some 314)) 280 49 (some 315)) 280 50 (some 316)) 280 51 (some 317)) 280 52 (some 318)) 280 53 (some 319)) 280 62 (some 320)) 280 63 (some 321)) 280 64 (some 322)) 280 65 (some 323)) 280 66 (some 324)) 280 67 (some 325)) 280 76 (some 326)) 280 77 (some 327)) 280 78 (some 328)) 280 79 (some 329)) 280 81 (some 330)) 280 82 (some 331)) 280 84 (some 332)) 280 85 (some 333)) 280 86 (some 334)), (upI I 280 59 (5 : Int32)), L))) (b := true) rfl rfl ?_
  refine Rc.goL mt_1200 0 (f2 := (474, [.ref 280, UU], [.ref 335, .ref 280], nw (335, (upR (upR (upR (upR (upR (upR (upR (upR (upR (upR (upR (upR (upR (upR (upR (upR (upR (upR (upR (upR (upR (upR (upR (upR (upR (upR (upR (upR (upR (upR (upR (upR (upR (upR (upR (upR (upR (upR (upR (upR (upR (upR (upR (upR (upR (upR (upR (upR (upR (upR (upR (upR (upR (upR R 280 4 (some 281)) 280 5 (some 282)) 280 6 (some 283)) 280 7 (some 284)) 280 8 (some 285)) 280 9 (some 286)) 280 10 (some 287)) 280 11 (some 288)) 280 12 (some 289)) 280 21 (some 290)) 280 22 (some 291)) 280 23 (some 292)) 280 24 (some 293)) 280 25 (some 294)) 280 26 (some 295)) 280 29 (some 296)) 280 30 (some 297)) 280 31 (some 298)) 280 32 (some 299)) 280 33 (some 300)) 280 34 (some 301)) 280 35 (some 302)) 280 36 (some 303)) 280 37 (some 304)) 280 38 (some 305)) 280 39 (some 306)) 280 40 (some 307)) 280 41 (some 308)) 280 42 (some 309)) 280 44 (some 310)) 280 45 (some 311)) 280 46 (some 312)) 280 47 (some 313)) 280 48 (some 314)) 280 49 (some 315)) 280 50 (some 316)) 280 51 (some 317)) 280 52 (some 318)) 280 53 (some 319)) 280 62 (some 320)) 280 63 (some 321)) 280 64 (some 322)) 280 65 (some 323)) 280 66 (some 324)) 280 67 (some 325)) 280 76 (some 326)) 280 77 (some 327)) 280 78 (some 328)) 280 79 (some 329)) 280 81 (some 330)) 280 82 (some 331)) 280 84 (some 332)) 280 85 (some 333)) 280 86 (some 334)), (upI I 280 59 (5 : Int32)), L))) (b := ((Nat.beq (K0 335) (kAT .boolean) && decide (¬ (12 : Int32) < 0) && Nat.beq (Int32.toNatClampNeg (12 : Int32)) (Z0 335)) && true)) rfl (by decide +kernel) ?_
  rw [(hF.mk1 (m := 336) rfl (by decide)).1]
  have hF := (hF.mk1 (m := 336) rfl (by decide)).2
  refine Rc.goL mt_1200 0 (f2 := (477, [.ref 280, UU], [], (336, (upR (upR (upR (upR (upR (upR (upR (upR (upR (upR (upR (upR (upR (upR (upR (upR (upR (upR (upR (upR (upR (upR (upR (upR (upR (upR (upR (upR (upR (upR (upR (upR (upR (upR (upR (upR (upR (upR (upR (upR (upR (upR (upR (upR (upR (upR (upR (upR (upR (upR (upR (upR (upR (upR (upR R 280 4 (some 281)) 280 5 (some 282)) 280 6 (some 283)) 280 7 (some 284)) 280 8 (some 285)) 280 9 (some 286)) 280 10 (some 287)) 280 11 (some 288)) 280 12 (some 289)) 280 21 (some 290)) 280 22 (some 291)) 280 23 (some 292)) 280 24 (some 293)) 280 25 (some 294)) 280 26 (some 295)) 280 29 (some 296)) 280 30 (some 297)) 280 31 (some 298)) 280 32 (some 299)) 280 33 (some 300)) 280 34 (some 301)) 280 35 (some 302)) 280 36 (some 303)) 280 37 (some 304)) 280 38 (some 305)) 280 39 (some 306)) 280 40 (some 307)) 280 41 (some 308)) 280 42 (some 309)) 280 44 (some 310)) 280 45 (some 311)) 280 46 (some 312)) 280 47 (some 313)) 280 48 (some 314)) 280 49 (some 315)) 280 50 (some 316)) 280 51 (some 317)) 280 52 (some 318)) 280 53 (some 319)) 280 62 (some 320)) 280 63 (some 321)) 280 64 (some 322)) 280 65 (some 323)) 280 66 (some 324)) 280 67 (some 325)) 280 76 (some 326)) 280 77 (some 327)) 280 78 (some 328)) 280 79 (some 329)) 280 81 (some 330)) 280 82 (some 331)) 280 84 (some 332)) 280 85 (some 333)) 280 86 (some 334)) 280 88 (some 335)), (upI I 280 59 (5 : Int32)), L))) (b := true) rfl rfl ?_
  have hF := hF.uR (c := 280) (i := 88) (v := some 335) (by decide)
  refine Rc.goL mt_1200 1 (f2 := (479, [.ref 280, .int (0 : Int32)], [], (336, (upR (upR (upR (upR (upR (upR (upR (upR (upR (upR (upR (upR (upR (upR (upR (upR (upR (upR (upR (upR (upR (upR (upR (upR (upR (upR (upR (upR (upR (upR (upR (upR (upR (upR (upR (upR (upR (upR (upR (upR (upR (upR (upR (upR (upR (upR (upR (upR (upR (upR (upR (upR (upR (upR (upR R 280 4 (some 281)) 280 5 (some 282)) 280 6 (some 283)) 280 7 (some 284)) 280 8 (some 285)) 280 9 (some 286)) 280 10 (some 287)) 280 11 (some 288)) 280 12 (some 289)) 280 21 (some 290)) 280 22 (some 291)) 280 23 (some 292)) 280 24 (some 293)) 280 25 (some 294)) 280 26 (some 295)) 280 29 (some 296)) 280 30 (some 297)) 280 31 (some 298)) 280 32 (some 299)) 280 33 (some 300)) 280 34 (some 301)) 280 35 (some 302)) 280 36 (some 303)) 280 37 (some 304)) 280 38 (some 305)) 280 39 (some 306)) 280 40 (some 307)) 280 41 (some 308)) 280 42 (some 309)) 280 44 (some 310)) 280 45 (some 311)) 280 46 (some 312)) 280 47 (some 313)) 280 48 (some 314)) 280 49 (some 315)) 280 50 (some 316)) 280 51 (some 317)) 280 52 (some 318)) 280 53 (some 319)) 280 62 (some 320)) 280 63 (some 321)) 280 64 (some 322)) 280 65 (some 323)) 280 66 (some 324)) 280 67 (some 325)) 280 76 (some 326)) 280 77 (some 327)) 280 78 (some 328)) 280 79 (some 329)) 280 81 (some 330)) 280 82 (some 331)) 280 84 (some 332)) 280 85 (some 333)) 280 86 (some 334)) 280 88 (some 335)), (upI I 280 59 (5 : Int32)), L))) (b := true) rfl rfl ?_
  refine lw_1200_479 (by rfl) ?_
  have hF := hF.fi (c := 287) (N := 3120) (v := -1) (by decide)
  refine Rc.goL mt_1200 1 (f2 := (501, [.ref 280, .int (0 : Int32)], [], (336, (upR (upR (upR (upR (upR (upR (upR (upR (upR (upR (upR (upR (upR (upR (upR (upR (upR (upR (upR (upR (upR (upR (upR (upR (upR (upR (upR (upR (upR (upR (upR (upR (upR (upR (upR (upR (upR (upR (upR (upR (upR (upR (upR (upR (upR (upR (upR (upR (upR (upR (upR (upR (upR (upR (upR R 280 4 (some 281)) 280 5 (some 282)) 280 6 (some 283)) 280 7 (some 284)) 280 8 (some 285)) 280 9 (some 286)) 280 10 (some 287)) 280 11 (some 288)) 280 12 (some 289)) 280 21 (some 290)) 280 22 (some 291)) 280 23 (some 292)) 280 24 (some 293)) 280 25 (some 294)) 280 26 (some 295)) 280 29 (some 296)) 280 30 (some 297)) 280 31 (some 298)) 280 32 (some 299)) 280 33 (some 300)) 280 34 (some 301)) 280 35 (some 302)) 280 36 (some 303)) 280 37 (some 304)) 280 38 (some 305)) 280 39 (some 306)) 280 40 (some 307)) 280 41 (some 308)) 280 42 (some 309)) 280 44 (some 310)) 280 45 (some 311)) 280 46 (some 312)) 280 47 (some 313)) 280 48 (some 314)) 280 49 (some 315)) 280 50 (some 316)) 280 51 (some 317)) 280 52 (some 318)) 280 53 (some 319)) 280 62 (some 320)) 280 63 (some 321)) 280 64 (some 322)) 280 65 (some 323)) 280 66 (some 324)) 280 67 (some 325)) 280 76 (some 326)) 280 77 (some 327)) 280 78 (some 328)) 280 79 (some 329)) 280 81 (some 330)) 280 82 (some 331)) 280 84 (some 332)) 280 85 (some 333)) 280 86 (some 334)) 280 88 (some 335)), (fiI (upI I 280 59 (5 : Int32)) 287 3120 (-1)), L))) (b := true) rfl rfl ?_
  refine lw_1200_501 (by rfl) ?_
  have hF := hF.fi (c := 288) (N := 8320) (v := -1) (by decide)
  exact Rc.ret (v := none) rfl rfl
