def lenI (i : Instr) : Nat := match i with
  | .bipush _ => 2 | .ldc _ => 2 | .iload _ => 2 | .lload _ => 2 | .aload _ => 2 | .istore _ => 2 | .lstore _ => 2 | .astore _ => 2 | .newarray _ => 2
  | .sipush _ => 3 | .ldc_w _ => 3 | .ldc2_w _ => 3 | .iinc _ _ => 3 | .goto _ => 3 | .ifCond _ _ => 3 | .if_icmp _ _ => 3 | .ifnull _ => 3 | .ifnonnull _ => 3
  | .getfield _ => 3 | .putfield _ => 3 | .invokevirtual _ => 3 | .invokestatic _ => 3 | .invokespecial _ => 3 | .new _ => 3 | .anewarray _ => 3
  | .multianewarray _ _ => 4 | _ => 1
def jmp (e : EN) (off : Int) : Bool := decide ((e.1 : Int) + off = (e.2.2.2.1 : Int))
def tsw (e : EN) (lo : Int) (offs : List Int) : Nat → List (Int32 × Nat) → Bool
  | _, [] => true
  | j, q :: r => decide (q.1.toInt = lo + (j : Int)) && decide ((offs[j]?).map (fun o => (e.1 : Int) + o) = some (q.2 : Int)) && tsw e lo offs (j + 1) r
def lsw (e : EN) : List (Int × Int) → List (Int32 × Nat) → Bool
  | [], [] => true
  | a :: s, q :: r => decide (q.1.toInt = a.1) && decide ((e.1 : Int) + a.2 = (q.2 : Int)) && lsw e s r
  | _, _ => false
def okI (e : EN) : Bool := match e.2.1 with
  | .iconst n => decide (Int32.ofInt n = e.2.2.2.2.1) && Nat.beq e.2.2.1 1
  | .bipush n => decide ((Int8.ofInt n).toInt32 = e.2.2.2.2.1) && Nat.beq e.2.2.1 2
  | .sipush n => decide ((Int16.ofInt n).toInt32 = e.2.2.2.2.1) && Nat.beq e.2.2.1 3
  | .iinc _ n => decide (Int32.ofInt n = e.2.2.2.2.1) && Nat.beq e.2.2.1 3
  | .goto o => jmp e o && Nat.beq e.2.2.1 3
  | .ifCond _ o => jmp e o && Nat.beq e.2.2.1 3
  | .if_icmp _ o => jmp e o && Nat.beq e.2.2.1 3
  | .ifnull o => jmp e o && Nat.beq e.2.2.1 3
  | .ifnonnull o => jmp e o && Nat.beq e.2.2.1 3
  | .tableswitch d lo hi offs => jmp e d && decide (hi = lo + (e.2.2.2.2.2.length : Int) - 1) && tsw e lo offs.toList 0 e.2.2.2.2.2
  | .lookupswitch d ps => jmp e d && (ps.toList.zip (ps.toList.drop 1)).all (fun q => decide (q.1.1 < q.2.1)) && lsw e ps.toList e.2.2.2.2.2
  | i => Nat.beq e.2.2.1 (lenI i)
def okE (code : ByteArray) (e : EN) : Bool := decide (decode code e.1 = .ok (e.2.1, e.2.2.1)) && okI e
def wAt (p : Nat) (w : Cond) : Bool := decide (lw_tbl[p]? = some w)
def okM (m : Nat) : Bool :=
  wAt (psM m).2.2.2 (.initialized (yM m).cls) && decide ((yM m).cls ≠ "java/lang/invoke/MethodHandle" ∧ (yM m).cls ≠ "java/lang/invoke/VarHandle" ∧ (parseMethodDescriptor (yM m).desc).map (fun d => d.parameters.length) = some (naM m)) && Nat.ble (mxL m) 22 && plainName (yM m).cls && decide ((yM m).cls = RC (clM m))
  && (match kdM m with
    | 0 => wAt (psM m).2.1 (.static (yM m))
    | 1 => wAt (psM m).2.1 (.instanceMethod (yM m)) && wAt (psM m).2.2.1 (.selects (yM m).cls (yM m) (yM m))
    | 2 => wAt (psM m).2.1 (.instanceMethod (yM m)) && decide ((yM m).name = "<init>")
    | _ => false)
def CwM (m : Nat) : Prop := lw_tbl[(psM m).1]? = some (Cond.code (yM m) (cB m) (mxL m) (rtM m))
def okL (ow : Nat) (q : Nat × LK) : Bool := match q.2.1 with
  | 0 => wAt q.2.2.2.2.1 (.fieldLink (RC ow) q.1 (RC q.2.2.1) (TC q.2.2.1 q.2.2.2.1).2.1 (TC q.2.2.1 q.2.2.2.1).2.2.1) && decide ((TC q.2.2.1 q.2.2.2.1).1 = RC q.2.2.1) && Nat.blt q.2.2.1 13 && Nat.blt q.2.2.2.1 (nf q.2.2.1)
  | 1 => wAt q.2.2.2.2.1 (.fieldLinkNest (RC ow) q.1 (RC q.2.2.1) (TC q.2.2.1 q.2.2.2.1).2.1 (TC q.2.2.1 q.2.2.2.1).2.2.1 "FrameRents") && decide ((TC q.2.2.1 q.2.2.2.1).1 = RC q.2.2.1) && Nat.blt q.2.2.1 13 && Nat.blt q.2.2.2.1 (nf q.2.2.1)
  | 2 => wAt q.2.2.2.2.1 (.methodLink (RC ow) q.1 (yM q.2.2.1)) && okM q.2.2.1 && Nat.beq (kdM q.2.2.1) 0
  | 3 => wAt q.2.2.2.2.1 (.methodLinkNest (RC ow) q.1 (yM q.2.2.1) "FrameRents") && okM q.2.2.1 && Nat.beq (kdM q.2.2.1) 0
  | 4 => wAt q.2.2.2.2.1 (.methodLink (RC ow) q.1 (yM q.2.2.1)) && okM q.2.2.1 && Nat.beq (kdM q.2.2.1) 1
  | 6 => wAt q.2.2.2.2.1 (.methodLink (RC ow) q.1 (yM q.2.2.1)) && okM q.2.2.1 && Nat.beq (kdM q.2.2.1) 2
  | 7 => wAt q.2.2.2.2.1 (.classLink (RC ow) q.1 (RC q.2.2.1)) && Nat.blt q.2.2.1 13
  | 8 => wAt q.2.2.2.2.1 (.constant (RC ow) q.1 q.2.2.2.2.2.1)
  | 9 => wAt q.2.2.2.2.1 (.constantLong (RC ow) q.1 q.2.2.2.2.2.2)
  | 10 => wAt q.2.2.2.2.1 (.stringRef (RC ow) q.1 "gdsnyfhiow") && decide (RC ow = RX7) && Nat.beq q.1 137
  | 11 => wAt q.2.2.2.2.1 (.methodLink (RC ow) q.1 objectInit)
  | 12 => (match q.2.2.1 with
    | 0 => wAt q.2.2.2.2.1 (.methodLink (RC ow) q.1 yJ9_max_7cf53)
    | 1 => wAt q.2.2.2.2.1 (.methodLink (RC ow) q.1 yJ9_min_7cf53)
    | 2 => wAt q.2.2.2.2.1 (.methodLink (RC ow) q.1 yJ9_max_f86c9)
    | 3 => wAt q.2.2.2.2.1 (.methodLink (RC ow) q.1 yJ9_min_f86c9)
    | _ => false)
  | 13 => wAt q.2.2.2.2.1 (.methodLink (RC ow) q.1 yJ0_indexOf_0f7a4)
  | 15 => (match q.2.2.1 with
    | 26 => wAt q.2.2.2.2.1 (.classLink (RC ow) q.1 ("[" ++ (FieldType.array .int).toString)) && Nat.beq q.2.2.2.1 20
    | 27 => wAt q.2.2.2.2.1 (.classLink (RC ow) q.1 ("[" ++ (FieldType.array .long).toString)) && Nat.beq q.2.2.2.1 21
    | _ => false)
  | _ => false
/-- the class' fields: kinds fit the descriptors -/
def fdk (k : Nat) (d : FieldType) : Bool := match k, d with
  | 0, .int => true
  | 1, .long => true
  | 4, .boolean => true
  | 2, .object _ => true
  | 2, .array _ => true
  | 3, .object _ => true
  | _, _ => false
def okC (ci : Nat) : Bool := (List.range (nf ci)).all fun k => fdk (fk ci k) (tyC ci k) && decide (parseFieldDescriptor (TC ci k).2.2.1 = some (tyC ci k)) && decide ((fk ci k = 3) → (ci = 7 ∧ k = 1))
set_option maxRecDepth 100000 in
theorem uw_0 : ∀ k, k < 6 → lw_tbl[nth [337, 339, 341, 343, 345, 347] k]? = some (u_lay (RC 0) (TC 0) k) := by decide +kernel
set_option maxRecDepth 100000 in
theorem ui_0 : lw_tbl[325]? = some (Cond.instantiable (RC 0) (nf 0)) ∧ lw_tbl[98]? = some (Cond.initialized (RC 0)) := by decide +kernel
set_option maxRecDepth 100000 in
theorem uw_1 : ∀ k, k < 5 → lw_tbl[nth [425, 427, 429, 431, 433] k]? = some (u_lay (RC 1) (TC 1) k) := by decide +kernel
set_option maxRecDepth 100000 in
theorem ui_1 : lw_tbl[415]? = some (Cond.instantiable (RC 1) (nf 1)) ∧ lw_tbl[101]? = some (Cond.initialized (RC 1)) := by decide +kernel
set_option maxRecDepth 100000 in
theorem uw_2 : ∀ k, k < 4 → lw_tbl[nth [315, 317, 319, 321] k]? = some (u_lay (RC 2) (TC 2) k) := by decide +kernel
set_option maxRecDepth 100000 in
theorem ui_2 : lw_tbl[304]? = some (Cond.instantiable (RC 2) (nf 2)) ∧ lw_tbl[97]? = some (Cond.initialized (RC 2)) := by decide +kernel
set_option maxRecDepth 100000 in
theorem uw_3 : ∀ k, k < 3 → lw_tbl[nth [447, 449, 451] k]? = some (u_lay (RC 3) (TC 3) k) := by decide +kernel
set_option maxRecDepth 100000 in
theorem ui_3 : lw_tbl[437]? = some (Cond.instantiable (RC 3) (nf 3)) ∧ lw_tbl[102]? = some (Cond.initialized (RC 3)) := by decide +kernel
set_option maxRecDepth 100000 in
theorem uw_4 : ∀ k, k < 3 → lw_tbl[nth [407, 409, 411] k]? = some (u_lay (RC 4) (TC 4) k) := by decide +kernel
set_option maxRecDepth 100000 in
theorem ui_4 : lw_tbl[398]? = some (Cond.instantiable (RC 4) (nf 4)) ∧ lw_tbl[100]? = some (Cond.initialized (RC 4)) := by decide +kernel
set_option maxRecDepth 100000 in
theorem uw_5 : ∀ k, k < 12 → lw_tbl[nth [372, 374, 376, 378, 380, 382, 384, 386, 388, 390, 392, 394] k]? = some (u_lay (RC 5) (TC 5) k) := by decide +kernel
set_option maxRecDepth 100000 in
theorem ui_5 : lw_tbl[351]? = some (Cond.instantiable (RC 5) (nf 5)) ∧ lw_tbl[99]? = some (Cond.initialized (RC 5)) := by decide +kernel
set_option maxRecDepth 100000 in
theorem uw_6 : ∀ k, k < 9 → lw_tbl[nth [231, 233, 235, 237, 239, 241, 243, 245, 247] k]? = some (u_lay (RC 6) (TC 6) k) := by decide +kernel
set_option maxRecDepth 100000 in
theorem ui_6 : lw_tbl[212]? = some (Cond.instantiable (RC 6) (nf 6)) ∧ lw_tbl[95]? = some (Cond.initialized (RC 6)) := by decide +kernel
set_option maxRecDepth 100000 in
theorem uw_7 : ∀ k, k < 6 → lw_tbl[nth [198, 200, 202, 204, 206, 208] k]? = some (u_lay (RC 7) (TC 7) k) := by decide +kernel
set_option maxRecDepth 100000 in
theorem ui_7 : lw_tbl[134]? = some (Cond.instantiable (RC 7) (nf 7)) ∧ lw_tbl[92]? = some (Cond.initialized (RC 7)) := by decide +kernel
set_option maxRecDepth 100000 in
theorem uw_8 : ∀ k, k < 12 → lw_tbl[nth [165, 167, 169, 171, 173, 175, 177, 179, 181, 183, 185, 187] k]? = some (u_lay (RC 8) (TC 8) k) := by decide +kernel
set_option maxRecDepth 100000 in
theorem ui_8 : lw_tbl[140]? = some (Cond.instantiable (RC 8) (nf 8)) ∧ lw_tbl[93]? = some (Cond.initialized (RC 8)) := by decide +kernel
set_option maxRecDepth 100000 in
theorem uw_9 : ∀ k, k < 2 → lw_tbl[nth [127, 129] k]? = some (u_lay (RC 9) (TC 9) k) := by decide +kernel
set_option maxRecDepth 100000 in
theorem ui_9 : lw_tbl[119]? = some (Cond.instantiable (RC 9) (nf 9)) ∧ lw_tbl[91]? = some (Cond.initialized (RC 9)) := by decide +kernel
set_option maxRecDepth 100000 in
theorem uw_10 : ∀ k, k < 12 → lw_tbl[nth [278, 280, 282, 284, 286, 288, 290, 292, 294, 296, 298, 300] k]? = some (u_lay (RC 10) (TC 10) k) := by decide +kernel
set_option maxRecDepth 100000 in
theorem ui_10 : lw_tbl[252]? = some (Cond.instantiable (RC 10) (nf 10)) ∧ lw_tbl[96]? = some (Cond.initialized (RC 10)) := by decide +kernel
set_option maxRecDepth 100000 in
theorem uw_11 : ∀ k, k < 12 → lw_tbl[nth [467, 469, 471, 473, 475, 477, 479, 481, 483, 485, 487, 489] k]? = some (u_lay (RC 11) (TC 11) k) := by decide +kernel
set_option maxRecDepth 100000 in
theorem ui_11 : lw_tbl[111]? = some (Cond.instantiable (RC 11) (nf 11)) ∧ lw_tbl[90]? = some (Cond.initialized (RC 11)) := by decide +kernel
set_option maxRecDepth 100000 in
theorem uw_12 : ∀ k, k < 89 → lw_tbl[nth [1408, 1410, 1412, 1414, 1416, 1418, 1420, 1422, 1424, 1426, 1428, 1430, 1432, 1434, 1436, 1438, 1440, 1442, 1444, 1446, 1448, 1450, 1452, 1454, 1456, 1458, 1460, 1462, 1464, 1466, 1468, 1470, 1472, 1474, 1476, 1478, 1480, 1482, 1484, 1486, 1488, 1490, 1492, 1494, 1496, 1498, 1500, 1502, 1504, 1506, 1508, 1510, 1512, 1514, 1516, 1518, 1520, 1522, 1524, 1526, 1528, 1530, 1532, 1534, 1536, 1538, 1540, 1542, 1544, 1546, 1548, 1550, 1552, 1554, 1556, 1558, 1560, 1562, 1564, 1566, 1568, 1570, 1572, 1574, 1576, 1578, 1580, 1582, 1584] k]? = some (u_lay (RC 12) (TC 12) k) := by decide +kernel
set_option maxRecDepth 100000 in
theorem ui_12 : lw_tbl[1314]? = some (Cond.instantiable (RC 12) (nf 12)) ∧ lw_tbl[103]? = some (Cond.initialized (RC 12)) := by decide +kernel
set_option maxRecDepth 100000 in
theorem okC_all : ∀ ci, ci < 13 → okC ci = true := by decide +kernel
set_option maxRecDepth 100000 in
theorem okL_0 : LN_0.all (okL 0) = true := by decide +kernel
set_option maxRecDepth 100000 in
theorem okL_1 : LN_1.all (okL 1) = true := by decide +kernel
set_option maxRecDepth 100000 in
theorem okL_2 : LN_2.all (okL 2) = true := by decide +kernel
set_option maxRecDepth 100000 in
theorem okL_3 : LN_3.all (okL 3) = true := by decide +kernel
set_option maxRecDepth 100000 in
theorem okL_4 : LN_4.all (okL 4) = true := by decide +kernel
set_option maxRecDepth 100000 in
theorem okL_5 : LN_5.all (okL 5) = true := by decide +kernel
set_option maxRecDepth 100000 in
theorem okL_6 : LN_6.all (okL 6) = true := by decide +kernel
set_option maxRecDepth 100000 in
theorem okL_7 : LN_7.all (okL 7) = true := by decide +kernel
set_option maxRecDepth 100000 in
theorem okL_8 : LN_8.all (okL 8) = true := by decide +kernel
set_option maxRecDepth 100000 in
theorem okL_9 : LN_9.all (okL 9) = true := by decide +kernel
set_option maxRecDepth 100000 in
theorem okL_10 : LN_10.all (okL 10) = true := by decide +kernel
set_option maxRecDepth 100000 in
theorem okL_11 : LN_11.all (okL 11) = true := by decide +kernel
set_option maxRecDepth 100000 in
theorem okL_12 : LN_12.all (okL 12) = true := by decide +kernel
set_option maxRecDepth 100000 in
theorem okL_13 : LN_13.all (okL 13) = true := by decide +kernel
set_option maxRecDepth 100000 in
theorem okL_14 : LN_14.all (okL 14) = true := by decide +kernel
set_option maxRecDepth 100000 in
theorem cw_0 : CwM 0 := rfl
set_option maxRecDepth 100000 in
theorem cw_1 : CwM 1 := rfl
set_option maxRecDepth 100000 in
theorem cw_2 : CwM 2 := rfl
set_option maxRecDepth 100000 in
theorem cw_3 : CwM 3 := rfl
set_option maxRecDepth 100000 in
theorem cw_100 : CwM 100 := rfl
set_option maxRecDepth 100000 in
theorem cw_101 : CwM 101 := rfl
set_option maxRecDepth 100000 in
theorem cw_102 : CwM 102 := rfl
set_option maxRecDepth 100000 in
theorem cw_103 : CwM 103 := rfl
set_option maxRecDepth 100000 in
theorem cw_104 : CwM 104 := rfl
set_option maxRecDepth 100000 in
theorem cw_105 : CwM 105 := rfl
set_option maxRecDepth 100000 in
theorem cw_106 : CwM 106 := rfl
set_option maxRecDepth 100000 in
theorem cw_107 : CwM 107 := rfl
set_option maxRecDepth 100000 in
theorem cw_200 : CwM 200 := rfl
set_option maxRecDepth 100000 in
theorem cw_201 : CwM 201 := rfl
set_option maxRecDepth 100000 in
theorem cw_202 : CwM 202 := rfl
set_option maxRecDepth 100000 in
theorem cw_203 : CwM 203 := rfl
set_option maxRecDepth 100000 in
theorem cw_204 : CwM 204 := rfl
set_option maxRecDepth 100000 in
theorem cw_205 : CwM 205 := rfl
set_option maxRecDepth 100000 in
theorem cw_206 : CwM 206 := rfl
set_option maxRecDepth 100000 in
theorem cw_300 : CwM 300 := rfl
set_option maxRecDepth 100000 in
theorem cw_301 : CwM 301 := rfl
set_option maxRecDepth 100000 in
theorem cw_302 : CwM 302 := rfl
set_option maxRecDepth 100000 in
theorem cw_303 : CwM 303 := rfl
set_option maxRecDepth 100000 in
theorem cw_304 : CwM 304 := rfl
set_option maxRecDepth 100000 in
theorem cw_305 : CwM 305 := rfl
set_option maxRecDepth 100000 in
theorem cw_306 : CwM 306 := rfl
set_option maxRecDepth 100000 in
theorem cw_307 : CwM 307 := rfl
set_option maxRecDepth 100000 in
theorem cw_400 : CwM 400 := rfl
set_option maxRecDepth 100000 in
theorem cw_401 : CwM 401 := rfl
set_option maxRecDepth 100000 in
theorem cw_402 : CwM 402 := rfl
set_option maxRecDepth 100000 in
theorem cw_403 : CwM 403 := rfl
set_option maxRecDepth 100000 in
theorem cw_404 : CwM 404 := rfl
set_option maxRecDepth 100000 in
theorem cw_500 : CwM 500 := rfl
set_option maxRecDepth 100000 in
theorem cw_501 : CwM 501 := rfl
set_option maxRecDepth 100000 in
theorem cw_502 : CwM 502 := rfl
set_option maxRecDepth 100000 in
theorem cw_503 : CwM 503 := rfl
set_option maxRecDepth 100000 in
theorem cw_504 : CwM 504 := rfl
set_option maxRecDepth 100000 in
theorem cw_505 : CwM 505 := rfl
set_option maxRecDepth 100000 in
theorem cw_506 : CwM 506 := rfl
set_option maxRecDepth 100000 in
theorem cw_507 : CwM 507 := rfl
set_option maxRecDepth 100000 in
theorem cw_508 : CwM 508 := rfl
set_option maxRecDepth 100000 in
theorem cw_509 : CwM 509 := rfl
set_option maxRecDepth 100000 in
theorem cw_510 : CwM 510 := rfl
set_option maxRecDepth 100000 in
theorem cw_511 : CwM 511 := rfl
set_option maxRecDepth 100000 in
theorem cw_512 : CwM 512 := rfl
set_option maxRecDepth 100000 in
theorem cw_600 : CwM 600 := rfl
set_option maxRecDepth 100000 in
theorem cw_601 : CwM 601 := rfl
set_option maxRecDepth 100000 in
theorem cw_602 : CwM 602 := rfl
set_option maxRecDepth 100000 in
theorem cw_603 : CwM 603 := rfl
set_option maxRecDepth 100000 in
theorem cw_604 : CwM 604 := rfl
set_option maxRecDepth 100000 in
theorem cw_605 : CwM 605 := rfl
set_option maxRecDepth 100000 in
theorem cw_606 : CwM 606 := rfl
set_option maxRecDepth 100000 in
theorem cw_607 : CwM 607 := rfl
set_option maxRecDepth 100000 in
theorem cw_608 : CwM 608 := rfl
set_option maxRecDepth 100000 in
theorem cw_609 : CwM 609 := rfl
set_option maxRecDepth 100000 in
theorem cw_610 : CwM 610 := rfl
set_option maxRecDepth 100000 in
theorem cw_611 : CwM 611 := rfl
set_option maxRecDepth 100000 in
theorem cw_612 : CwM 612 := rfl
set_option maxRecDepth 100000 in
theorem cw_613 : CwM 613 := rfl
set_option maxRecDepth 100000 in
theorem cw_614 : CwM 614 := rfl
set_option maxRecDepth 100000 in
theorem cw_615 : CwM 615 := rfl
set_option maxRecDepth 100000 in
theorem cw_616 : CwM 616 := rfl
set_option maxRecDepth 100000 in
theorem cw_617 : CwM 617 := rfl
set_option maxRecDepth 100000 in
theorem cw_618 : CwM 618 := rfl
set_option maxRecDepth 100000 in
theorem cw_619 : CwM 619 := rfl
set_option maxRecDepth 100000 in
theorem cw_620 : CwM 620 := rfl
set_option maxRecDepth 100000 in
theorem cw_621 : CwM 621 := rfl
set_option maxRecDepth 100000 in
theorem cw_622 : CwM 622 := rfl
set_option maxRecDepth 100000 in
theorem cw_623 : CwM 623 := rfl
set_option maxRecDepth 100000 in
theorem cw_624 : CwM 624 := rfl
set_option maxRecDepth 100000 in
theorem cw_700 : CwM 700 := rfl
set_option maxRecDepth 100000 in
theorem cw_701 : CwM 701 := rfl
set_option maxRecDepth 100000 in
theorem cw_702 : CwM 702 := rfl
set_option maxRecDepth 100000 in
theorem cw_703 : CwM 703 := rfl
set_option maxRecDepth 100000 in
theorem cw_704 : CwM 704 := rfl
set_option maxRecDepth 100000 in
theorem cw_705 : CwM 705 := rfl
set_option maxRecDepth 100000 in
theorem cw_706 : CwM 706 := rfl
set_option maxRecDepth 100000 in
theorem cw_707 : CwM 707 := rfl
set_option maxRecDepth 100000 in
theorem cw_708 : CwM 708 := rfl
set_option maxRecDepth 100000 in
theorem cw_709 : CwM 709 := rfl
set_option maxRecDepth 100000 in
theorem cw_710 : CwM 710 := rfl
set_option maxRecDepth 100000 in
theorem cw_711 : CwM 711 := rfl
set_option maxRecDepth 100000 in
theorem cw_712 : CwM 712 := rfl
set_option maxRecDepth 100000 in
theorem cw_713 : CwM 713 := rfl
set_option maxRecDepth 100000 in
theorem cw_714 : CwM 714 := rfl
set_option maxRecDepth 100000 in
theorem cw_715 : CwM 715 := rfl
set_option maxRecDepth 100000 in
theorem cw_716 : CwM 716 := rfl
set_option maxRecDepth 100000 in
theorem cw_717 : CwM 717 := rfl
set_option maxRecDepth 100000 in
theorem cw_718 : CwM 718 := rfl
set_option maxRecDepth 100000 in
theorem cw_719 : CwM 719 := rfl
set_option maxRecDepth 100000 in
theorem cw_800 : CwM 800 := rfl
set_option maxRecDepth 100000 in
theorem cw_801 : CwM 801 := rfl
set_option maxRecDepth 100000 in
theorem cw_802 : CwM 802 := rfl
set_option maxRecDepth 100000 in
theorem cw_803 : CwM 803 := rfl
set_option maxRecDepth 100000 in
theorem cw_804 : CwM 804 := rfl
set_option maxRecDepth 100000 in
theorem cw_805 : CwM 805 := rfl
set_option maxRecDepth 100000 in
theorem cw_806 : CwM 806 := rfl
set_option maxRecDepth 100000 in
theorem cw_807 : CwM 807 := rfl
set_option maxRecDepth 100000 in
theorem cw_808 : CwM 808 := rfl
set_option maxRecDepth 100000 in
theorem cw_809 : CwM 809 := rfl
set_option maxRecDepth 100000 in
theorem cw_810 : CwM 810 := rfl
set_option maxRecDepth 100000 in
theorem cw_811 : CwM 811 := rfl
set_option maxRecDepth 100000 in
theorem cw_812 : CwM 812 := rfl
set_option maxRecDepth 100000 in
theorem cw_813 : CwM 813 := rfl
set_option maxRecDepth 100000 in
theorem cw_814 : CwM 814 := rfl
set_option maxRecDepth 100000 in
theorem cw_815 : CwM 815 := rfl
set_option maxRecDepth 100000 in
theorem cw_816 : CwM 816 := rfl
set_option maxRecDepth 100000 in
theorem cw_817 : CwM 817 := rfl
set_option maxRecDepth 100000 in
theorem cw_818 : CwM 818 := rfl
set_option maxRecDepth 100000 in
theorem cw_900 : CwM 900 := rfl
set_option maxRecDepth 100000 in
theorem cw_901 : CwM 901 := rfl
set_option maxRecDepth 100000 in
theorem cw_902 : CwM 902 := rfl
set_option maxRecDepth 100000 in
theorem cw_903 : CwM 903 := rfl
set_option maxRecDepth 100000 in
theorem cw_904 : CwM 904 := rfl
set_option maxRecDepth 100000 in
theorem cw_905 : CwM 905 := rfl
set_option maxRecDepth 100000 in
theorem cw_906 : CwM 906 := rfl
set_option maxRecDepth 100000 in
theorem cw_1000 : CwM 1000 := rfl
set_option maxRecDepth 100000 in
theorem cw_1001 : CwM 1001 := rfl
set_option maxRecDepth 100000 in
theorem cw_1002 : CwM 1002 := rfl
set_option maxRecDepth 100000 in
theorem cw_1003 : CwM 1003 := rfl
set_option maxRecDepth 100000 in
theorem cw_1004 : CwM 1004 := rfl
set_option maxRecDepth 100000 in
theorem cw_1005 : CwM 1005 := rfl
set_option maxRecDepth 100000 in
theorem cw_1006 : CwM 1006 := rfl
set_option maxRecDepth 100000 in
theorem cw_1007 : CwM 1007 := rfl
set_option maxRecDepth 100000 in
theorem cw_1008 : CwM 1008 := rfl
set_option maxRecDepth 100000 in
theorem cw_1009 : CwM 1009 := rfl
set_option maxRecDepth 100000 in
theorem cw_1010 : CwM 1010 := rfl
set_option maxRecDepth 100000 in
theorem cw_1011 : CwM 1011 := rfl
set_option maxRecDepth 100000 in
theorem cw_1012 : CwM 1012 := rfl
set_option maxRecDepth 100000 in
theorem cw_1013 : CwM 1013 := rfl
set_option maxRecDepth 100000 in
theorem cw_1014 : CwM 1014 := rfl
set_option maxRecDepth 100000 in
theorem cw_1015 : CwM 1015 := rfl
set_option maxRecDepth 100000 in
theorem cw_1016 : CwM 1016 := rfl
set_option maxRecDepth 100000 in
theorem cw_1017 : CwM 1017 := rfl
set_option maxRecDepth 100000 in
theorem cw_1018 : CwM 1018 := rfl
set_option maxRecDepth 100000 in
theorem cw_1019 : CwM 1019 := rfl
set_option maxRecDepth 100000 in
theorem cw_1020 : CwM 1020 := rfl
set_option maxRecDepth 100000 in
theorem cw_1021 : CwM 1021 := rfl
set_option maxRecDepth 100000 in
theorem cw_1022 : CwM 1022 := rfl
set_option maxRecDepth 100000 in
theorem cw_1100 : CwM 1100 := rfl
set_option maxRecDepth 100000 in
theorem cw_1101 : CwM 1101 := rfl
set_option maxRecDepth 100000 in
theorem cw_1102 : CwM 1102 := rfl
set_option maxRecDepth 100000 in
theorem cw_1103 : CwM 1103 := rfl
set_option maxRecDepth 100000 in
theorem cw_1104 : CwM 1104 := rfl
set_option maxRecDepth 100000 in
theorem cw_1105 : CwM 1105 := rfl
set_option maxRecDepth 100000 in
theorem cw_1106 : CwM 1106 := rfl
set_option maxRecDepth 100000 in
theorem cw_1107 : CwM 1107 := rfl
set_option maxRecDepth 100000 in
theorem cw_1108 : CwM 1108 := rfl
set_option maxRecDepth 100000 in
theorem cw_1109 : CwM 1109 := rfl
set_option maxRecDepth 100000 in
theorem cw_1110 : CwM 1110 := rfl
set_option maxRecDepth 100000 in
theorem cw_1111 : CwM 1111 := rfl
set_option maxRecDepth 100000 in
theorem cw_1112 : CwM 1112 := rfl
set_option maxRecDepth 100000 in
theorem cw_1113 : CwM 1113 := rfl
set_option maxRecDepth 100000 in
theorem cw_1114 : CwM 1114 := rfl
set_option maxRecDepth 100000 in
theorem cw_1115 : CwM 1115 := rfl
set_option maxRecDepth 100000 in
theorem cw_1116 : CwM 1116 := rfl
set_option maxRecDepth 100000 in
theorem cw_1117 : CwM 1117 := rfl
set_option maxRecDepth 100000 in
theorem cw_1118 : CwM 1118 := rfl
set_option maxRecDepth 100000 in
theorem cw_1119 : CwM 1119 := rfl
set_option maxRecDepth 100000 in
theorem cw_1120 : CwM 1120 := rfl
set_option maxRecDepth 100000 in
theorem cw_1121 : CwM 1121 := rfl
set_option maxRecDepth 100000 in
theorem cw_1122 : CwM 1122 := rfl
set_option maxRecDepth 100000 in
theorem cw_1123 : CwM 1123 := rfl
set_option maxRecDepth 100000 in
theorem cw_1124 : CwM 1124 := rfl
set_option maxRecDepth 100000 in
theorem cw_1125 : CwM 1125 := rfl
set_option maxRecDepth 100000 in
theorem cw_1126 : CwM 1126 := rfl
set_option maxRecDepth 100000 in
theorem cw_1127 : CwM 1127 := rfl
set_option maxRecDepth 100000 in
theorem cw_1128 : CwM 1128 := rfl
set_option maxRecDepth 100000 in
theorem cw_1129 : CwM 1129 := rfl
set_option maxRecDepth 100000 in
theorem cw_1130 : CwM 1130 := rfl
set_option maxRecDepth 100000 in
theorem cw_1131 : CwM 1131 := rfl
set_option maxRecDepth 100000 in
theorem cw_1132 : CwM 1132 := rfl
set_option maxRecDepth 100000 in
theorem cw_1133 : CwM 1133 := rfl
set_option maxRecDepth 100000 in
theorem cw_1134 : CwM 1134 := rfl
set_option maxRecDepth 100000 in
theorem cw_1135 : CwM 1135 := rfl
set_option maxRecDepth 100000 in
theorem cw_1136 : CwM 1136 := rfl
set_option maxRecDepth 100000 in
theorem cw_1137 : CwM 1137 := rfl
set_option maxRecDepth 100000 in
theorem cw_1138 : CwM 1138 := rfl
set_option maxRecDepth 100000 in
theorem cw_1139 : CwM 1139 := rfl
set_option maxRecDepth 100000 in
theorem cw_1140 : CwM 1140 := rfl
set_option maxRecDepth 100000 in
theorem cw_1141 : CwM 1141 := rfl
set_option maxRecDepth 100000 in
theorem cw_1142 : CwM 1142 := rfl
set_option maxRecDepth 100000 in
theorem cw_1143 : CwM 1143 := rfl
set_option maxRecDepth 100000 in
theorem cw_1144 : CwM 1144 := rfl
set_option maxRecDepth 100000 in
theorem cw_1145 : CwM 1145 := rfl
set_option maxRecDepth 100000 in
theorem cw_1146 : CwM 1146 := rfl
set_option maxRecDepth 100000 in
theorem cw_1200 : CwM 1200 := rfl
set_option maxRecDepth 100000 in
theorem cw_1201 : CwM 1201 := rfl
set_option maxRecDepth 100000 in
theorem cw_1202 : CwM 1202 := rfl
set_option maxRecDepth 100000 in
theorem cw_1203 : CwM 1203 := rfl
set_option maxRecDepth 100000 in
theorem cw_1204 : CwM 1204 := rfl
set_option maxRecDepth 100000 in
theorem cw_1205 : CwM 1205 := rfl
set_option maxRecDepth 100000 in
theorem cw_1206 : CwM 1206 := rfl
set_option maxRecDepth 100000 in
theorem cw_1207 : CwM 1207 := rfl
set_option maxRecDepth 100000 in
theorem cw_1208 : CwM 1208 := rfl
set_option maxRecDepth 100000 in
theorem cw_1209 : CwM 1209 := rfl
set_option maxRecDepth 100000 in
theorem cw_1210 : CwM 1210 := rfl
set_option maxRecDepth 100000 in
theorem cw_1211 : CwM 1211 := rfl
set_option maxRecDepth 100000 in
theorem cw_1212 : CwM 1212 := rfl
set_option maxRecDepth 100000 in
theorem cw_1213 : CwM 1213 := rfl
set_option maxRecDepth 100000 in
theorem cw_1214 : CwM 1214 := rfl
set_option maxRecDepth 100000 in
theorem cw_1215 : CwM 1215 := rfl
set_option maxRecDepth 100000 in
theorem cw_1216 : CwM 1216 := rfl
set_option maxRecDepth 100000 in
theorem cw_1217 : CwM 1217 := rfl
set_option maxRecDepth 100000 in
theorem cw_1218 : CwM 1218 := rfl
set_option maxRecDepth 100000 in
theorem cw_1219 : CwM 1219 := rfl
set_option maxRecDepth 100000 in
theorem cw_1220 : CwM 1220 := rfl
set_option maxRecDepth 100000 in
theorem cw_1221 : CwM 1221 := rfl
set_option maxRecDepth 100000 in
theorem cw_1222 : CwM 1222 := rfl
set_option maxRecDepth 100000 in
theorem cw_1223 : CwM 1223 := rfl
set_option maxRecDepth 100000 in
theorem cw_1224 : CwM 1224 := rfl
set_option maxRecDepth 100000 in
theorem cw_1225 : CwM 1225 := rfl
set_option maxRecDepth 100000 in
theorem cw_1226 : CwM 1226 := rfl
set_option maxRecDepth 100000 in
theorem cw_1227 : CwM 1227 := rfl
set_option maxRecDepth 100000 in
theorem cw_1228 : CwM 1228 := rfl
set_option maxRecDepth 100000 in
theorem cw_1229 : CwM 1229 := rfl
set_option maxRecDepth 100000 in
theorem cw_1230 : CwM 1230 := rfl
set_option maxRecDepth 100000 in
theorem cw_1231 : CwM 1231 := rfl
set_option maxRecDepth 100000 in
theorem cw_1232 : CwM 1232 := rfl
set_option maxRecDepth 100000 in
theorem cw_1233 : CwM 1233 := rfl
set_option maxRecDepth 100000 in
theorem cw_1234 : CwM 1234 := rfl
set_option maxRecDepth 100000 in
theorem cw_1235 : CwM 1235 := rfl
set_option maxRecDepth 100000 in
theorem cw_1236 : CwM 1236 := rfl
set_option maxRecDepth 100000 in
theorem cw_1237 : CwM 1237 := rfl
set_option maxRecDepth 100000 in
theorem cw_1238 : CwM 1238 := rfl
set_option maxRecDepth 100000 in
theorem cw_1239 : CwM 1239 := rfl
set_option maxRecDepth 100000 in
theorem cw_1240 : CwM 1240 := rfl
set_option maxRecDepth 100000 in
theorem cw_1241 : CwM 1241 := rfl
set_option maxRecDepth 100000 in
theorem cw_1242 : CwM 1242 := rfl
set_option maxRecDepth 100000 in
theorem cw_1243 : CwM 1243 := rfl
set_option maxRecDepth 100000 in
theorem cw_1244 : CwM 1244 := rfl
set_option maxRecDepth 100000 in
theorem cw_1245 : CwM 1245 := rfl
set_option maxRecDepth 100000 in
theorem cw_1246 : CwM 1246 := rfl
set_option maxRecDepth 100000 in
theorem cw_1247 : CwM 1247 := rfl
set_option maxRecDepth 100000 in
theorem cw_1248 : CwM 1248 := rfl
set_option maxRecDepth 100000 in
theorem cw_1249 : CwM 1249 := rfl
set_option maxRecDepth 100000 in
theorem cw_1250 : CwM 1250 := rfl
set_option maxRecDepth 100000 in
theorem cw_1251 : CwM 1251 := rfl
set_option maxRecDepth 100000 in
theorem cw_1252 : CwM 1252 := rfl
set_option maxRecDepth 100000 in
theorem cw_1253 : CwM 1253 := rfl
set_option maxRecDepth 100000 in
theorem cw_1254 : CwM 1254 := rfl
set_option maxRecDepth 100000 in
theorem cw_1255 : CwM 1255 := rfl
set_option maxRecDepth 100000 in
theorem cw_1256 : CwM 1256 := rfl
set_option maxRecDepth 100000 in
theorem cw_1257 : CwM 1257 := rfl
set_option maxRecDepth 100000 in
theorem cw_1258 : CwM 1258 := rfl
set_option maxRecDepth 100000 in
theorem cw_1259 : CwM 1259 := rfl
set_option maxRecDepth 100000 in
theorem cw_1260 : CwM 1260 := rfl
set_option maxRecDepth 100000 in
theorem cw_1261 : CwM 1261 := rfl
set_option maxRecDepth 100000 in
theorem cw_1262 : CwM 1262 := rfl
set_option maxRecDepth 100000 in
theorem cw_1263 : CwM 1263 := rfl
set_option maxRecDepth 100000 in
theorem cw_1264 : CwM 1264 := rfl
set_option maxRecDepth 100000 in
theorem cw_1265 : CwM 1265 := rfl
set_option maxRecDepth 100000 in
theorem cw_1266 : CwM 1266 := rfl
set_option maxRecDepth 100000 in
theorem cw_1267 : CwM 1267 := rfl
set_option maxRecDepth 100000 in
theorem cw_1268 : CwM 1268 := rfl
set_option maxRecDepth 100000 in
theorem cw_1269 : CwM 1269 := rfl
set_option maxRecDepth 100000 in
theorem cw_1270 : CwM 1270 := rfl
set_option maxRecDepth 100000 in
theorem cw_1271 : CwM 1271 := rfl
set_option maxRecDepth 100000 in
theorem cw_1272 : CwM 1272 := rfl
set_option maxRecDepth 100000 in
theorem cw_1273 : CwM 1273 := rfl
set_option maxRecDepth 100000 in
theorem cw_1274 : CwM 1274 := rfl
set_option maxRecDepth 100000 in
theorem cw_1275 : CwM 1275 := rfl
set_option maxRecDepth 100000 in
theorem cw_1276 : CwM 1276 := rfl
set_option maxRecDepth 100000 in
theorem cw_1277 : CwM 1277 := rfl
set_option maxRecDepth 100000 in
theorem cw_1278 : CwM 1278 := rfl
set_option maxRecDepth 100000 in
theorem cw_1279 : CwM 1279 := rfl
set_option maxRecDepth 100000 in
theorem cw_1280 : CwM 1280 := rfl
set_option maxRecDepth 100000 in
theorem cw_1281 : CwM 1281 := rfl
set_option maxRecDepth 100000 in
theorem cw_1282 : CwM 1282 := rfl
set_option maxRecDepth 100000 in
theorem cw_1283 : CwM 1283 := rfl
set_option maxRecDepth 100000 in
theorem cw_1284 : CwM 1284 := rfl
set_option maxRecDepth 100000 in
theorem cw_1285 : CwM 1285 := rfl
set_option maxRecDepth 100000 in
theorem cw_1286 : CwM 1286 := rfl
set_option maxRecDepth 100000 in
theorem cw_1287 : CwM 1287 := rfl
set_option maxRecDepth 100000 in
theorem cw_1288 : CwM 1288 := rfl
set_option maxRecDepth 100000 in
theorem cw_1300 : CwM 1300 := rfl
