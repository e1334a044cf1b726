def qlw_law_L18 : Nat → Int32 → SM → Option (Int32 × SM)
  | 0, _, _ => none
  | n + 1, x3, M =>
    if ((M.1 9998 0) - (8 : Int32)) < x3 then
    (some ((1 : Int32), M)) else
    (ck (ib (Int32.toNatClampNeg (M.1 9998 0)) x3 && true) (
      if ((M.1 9999 (Int32.toNatClampNeg x3)) &&& (63 : Int32)) = (0 : Int32) then
      (ck (ib (Int32.toNatClampNeg (M.1 9998 0)) (x3 + (1 : Int32)) && true) (
        ob (qfr_master (M.1 9999 (Int32.toNatClampNeg (x3 + (1 : Int32)))) M) (fun r3 M4 =>
        ck (ib (Int32.toNatClampNeg (M4.1 9998 0)) (x3 + (1 : Int32)) && true) (
        ob (qmd_master (M4.1 9999 (Int32.toNatClampNeg (x3 + (1 : Int32)))) M4) (fun r7 M8 =>
        if r3 = r7 then
        (qlw_law_L18 n (x3 + (8 : Int32)) M8) else
        (some ((0 : Int32), M8))))))) else
      (if ((M.1 9999 (Int32.toNatClampNeg x3)) &&& (63 : Int32)) = (1 : Int32) then
      (ck (ib (Int32.toNatClampNeg (M.1 9998 0)) (x3 + (1 : Int32)) && true) (
        ob (qfr_knitter (M.1 9999 (Int32.toNatClampNeg (x3 + (1 : Int32)))) M) (fun r13 M14 =>
        ck (ib (Int32.toNatClampNeg (M14.1 9998 0)) (x3 + (1 : Int32)) && true) (
        ob (qmd_knitter (M14.1 9999 (Int32.toNatClampNeg (x3 + (1 : Int32)))) M14) (fun r17 M18 =>
        if r13 = r17 then
        (qlw_law_L18 n (x3 + (8 : Int32)) M18) else
        (some ((0 : Int32), M18))))))) else
      (if ((M.1 9999 (Int32.toNatClampNeg x3)) &&& (63 : Int32)) = (2 : Int32) then
      (ck (ib (Int32.toNatClampNeg (M.1 9998 0)) (x3 + (1 : Int32)) && (ib (Int32.toNatClampNeg (M.1 9998 0)) (x3 + (2 : Int32)) && (ib (Int32.toNatClampNeg (M.1 9998 0)) (x3 + (3 : Int32)) && true))) (
        ob (qfr_frame (M.1 9999 (Int32.toNatClampNeg (x3 + (1 : Int32)))) (M.1 9999 (Int32.toNatClampNeg (x3 + (2 : Int32)))) (M.1 9999 (Int32.toNatClampNeg (x3 + (3 : Int32)))) M) (fun r23 M24 =>
        ck (ib (Int32.toNatClampNeg (M24.1 9998 0)) (x3 + (1 : Int32)) && (ib (Int32.toNatClampNeg (M24.1 9998 0)) (x3 + (2 : Int32)) && (ib (Int32.toNatClampNeg (M24.1 9998 0)) (x3 + (3 : Int32)) && true))) (
        ob (qmd_frame (M24.1 9999 (Int32.toNatClampNeg (x3 + (1 : Int32)))) (M24.1 9999 (Int32.toNatClampNeg (x3 + (2 : Int32)))) (M24.1 9999 (Int32.toNatClampNeg (x3 + (3 : Int32)))) M24) (fun r27 M28 =>
        if r23 = r27 then
        (qlw_law_L18 n (x3 + (8 : Int32)) M28) else
        (some ((0 : Int32), M28))))))) else
      (if ((M.1 9999 (Int32.toNatClampNeg x3)) &&& (63 : Int32)) = (3 : Int32) then
      (ck (ib (Int32.toNatClampNeg (M.1 9998 0)) (x3 + (1 : Int32)) && (ib (Int32.toNatClampNeg (M.1 9998 0)) (x3 + (2 : Int32)) && true)) (
        ob (qfr_hire (M.1 9999 (Int32.toNatClampNeg (x3 + (1 : Int32)))) (M.1 9999 (Int32.toNatClampNeg (x3 + (2 : Int32)))) M) (fun r33 M34 =>
        ck (ib (Int32.toNatClampNeg (M34.1 9998 0)) (x3 + (1 : Int32)) && (ib (Int32.toNatClampNeg (M34.1 9998 0)) (x3 + (2 : Int32)) && true)) (
        ob (qmd_hire (M34.1 9999 (Int32.toNatClampNeg (x3 + (1 : Int32)))) (M34.1 9999 (Int32.toNatClampNeg (x3 + (2 : Int32)))) M34) (fun r37 M38 =>
        if r33 = r37 then
        (qlw_law_L18 n (x3 + (8 : Int32)) M38) else
        (some ((0 : Int32), M38))))))) else
      (if ((M.1 9999 (Int32.toNatClampNeg x3)) &&& (63 : Int32)) = (4 : Int32) then
      (ck (ib (Int32.toNatClampNeg (M.1 9998 0)) (x3 + (1 : Int32)) && true) (
        ob (qfr_back (M.1 9999 (Int32.toNatClampNeg (x3 + (1 : Int32)))) M) (fun r43 M44 =>
        ck (ib (Int32.toNatClampNeg (M44.1 9998 0)) (x3 + (1 : Int32)) && true) (
        ob (qmd_back (M44.1 9999 (Int32.toNatClampNeg (x3 + (1 : Int32)))) M44) (fun r47 M48 =>
        if r43 = r47 then
        (qlw_law_L18 n (x3 + (8 : Int32)) M48) else
        (some ((0 : Int32), M48))))))) else
      (if ((M.1 9999 (Int32.toNatClampNeg x3)) &&& (63 : Int32)) = (5 : Int32) then
      (ck (ib (Int32.toNatClampNeg (M.1 9998 0)) (x3 + (1 : Int32)) && (ib (Int32.toNatClampNeg (M.1 9998 0)) (x3 + (2 : Int32)) && (ib (Int32.toNatClampNeg (M.1 9998 0)) (x3 + (3 : Int32)) && (ib (Int32.toNatClampNeg (M.1 9998 0)) (x3 + (4 : Int32)) && (ib (Int32.toNatClampNeg (M.1 9998 0)) (x3 + (5 : Int32)) && true))))) (
        ob (qfr_feed (M.1 9999 (Int32.toNatClampNeg (x3 + (1 : Int32)))) (M.1 9999 (Int32.toNatClampNeg (x3 + (2 : Int32)))) (M.1 9999 (Int32.toNatClampNeg (x3 + (3 : Int32)))) (M.1 9999 (Int32.toNatClampNeg (x3 + (4 : Int32)))) (M.1 9999 (Int32.toNatClampNeg (x3 + (5 : Int32)))) M) (fun r53 M54 =>
        ck (ib (Int32.toNatClampNeg (M54.1 9998 0)) (x3 + (1 : Int32)) && (ib (Int32.toNatClampNeg (M54.1 9998 0)) (x3 + (2 : Int32)) && (ib (Int32.toNatClampNeg (M54.1 9998 0)) (x3 + (3 : Int32)) && (ib (Int32.toNatClampNeg (M54.1 9998 0)) (x3 + (4 : Int32)) && (ib (Int32.toNatClampNeg (M54.1 9998 0)) (x3 + (5 : Int32)) && true))))) (
        ob (qmd_feed (M54.1 9999 (Int32.toNatClampNeg (x3 + (1 : Int32)))) (M54.1 9999 (Int32.toNatClampNeg (x3 + (2 : Int32)))) (M54.1 9999 (Int32.toNatClampNeg (x3 + (3 : Int32)))) (M54.1 9999 (Int32.toNatClampNeg (x3 + (4 : Int32)))) (M54.1 9999 (Int32.toNatClampNeg (x3 + (5 : Int32)))) M54) (fun r57 M58 =>
        if r53 = r57 then
        (qlw_law_L18 n (x3 + (8 : Int32)) M58) else
        (some ((0 : Int32), M58))))))) else
      (if ((M.1 9999 (Int32.toNatClampNeg x3)) &&& (63 : Int32)) = (6 : Int32) then
      (ck (ib (Int32.toNatClampNeg (M.1 9998 0)) (x3 + (1 : Int32)) && true) (
        ob (qfr_list (M.1 9999 (Int32.toNatClampNeg (x3 + (1 : Int32)))) M) (fun r63 M64 =>
        ck (ib (Int32.toNatClampNeg (M64.1 9998 0)) (x3 + (1 : Int32)) && true) (
        ob (qmd_list (M64.1 9999 (Int32.toNatClampNeg (x3 + (1 : Int32)))) M64) (fun r67 M68 =>
        if r63 = r67 then
        (qlw_law_L18 n (x3 + (8 : Int32)) M68) else
        (some ((0 : Int32), M68))))))) else
      (if ((M.1 9999 (Int32.toNatClampNeg x3)) &&& (63 : Int32)) = (7 : Int32) then
      (ck (ib (Int32.toNatClampNeg (M.1 9998 0)) (x3 + (1 : Int32)) && (ib (Int32.toNatClampNeg (M.1 9998 0)) (x3 + (2 : Int32)) && (ib (Int32.toNatClampNeg (M.1 9998 0)) (x3 + (3 : Int32)) && true))) (
        ob (qfr_act (M.1 9999 (Int32.toNatClampNeg (x3 + (1 : Int32)))) (M.1 9999 (Int32.toNatClampNeg (x3 + (2 : Int32)))) (M.1 9999 (Int32.toNatClampNeg (x3 + (3 : Int32)))) M) (fun r73 M74 =>
        ck (ib (Int32.toNatClampNeg (M74.1 9998 0)) (x3 + (1 : Int32)) && (ib (Int32.toNatClampNeg (M74.1 9998 0)) (x3 + (2 : Int32)) && (ib (Int32.toNatClampNeg (M74.1 9998 0)) (x3 + (3 : Int32)) && true))) (
        ob (qmd_act (M74.1 9999 (Int32.toNatClampNeg (x3 + (1 : Int32)))) (M74.1 9999 (Int32.toNatClampNeg (x3 + (2 : Int32)))) (M74.1 9999 (Int32.toNatClampNeg (x3 + (3 : Int32)))) M74) (fun r77 M78 =>
        if r73 = r77 then
        (qlw_law_L18 n (x3 + (8 : Int32)) M78) else
        (some ((0 : Int32), M78))))))) else
      (if ((M.1 9999 (Int32.toNatClampNeg x3)) &&& (63 : Int32)) = (8 : Int32) then
      (ck (ib (Int32.toNatClampNeg (M.1 9998 0)) (x3 + (1 : Int32)) && (ib (Int32.toNatClampNeg (M.1 9998 0)) (x3 + (2 : Int32)) && true)) (
        ob (qfr_uses (M.1 9999 (Int32.toNatClampNeg (x3 + (1 : Int32)))) (M.1 9999 (Int32.toNatClampNeg (x3 + (2 : Int32)))) M) (fun r83 M84 =>
        ck (ib (Int32.toNatClampNeg (M84.1 9998 0)) (x3 + (1 : Int32)) && (ib (Int32.toNatClampNeg (M84.1 9998 0)) (x3 + (2 : Int32)) && true)) (
        ob (qmd_uses (M84.1 9999 (Int32.toNatClampNeg (x3 + (1 : Int32)))) (M84.1 9999 (Int32.toNatClampNeg (x3 + (2 : Int32)))) M84) (fun r87 M88 =>
        if r83 = r87 then
        (qlw_law_L18 n (x3 + (8 : Int32)) M88) else
        (some ((0 : Int32), M88))))))) else
      (if ((M.1 9999 (Int32.toNatClampNeg x3)) &&& (63 : Int32)) = (9 : Int32) then
      (ck (ib (Int32.toNatClampNeg (M.1 9998 0)) (x3 + (1 : Int32)) && (ib (Int32.toNatClampNeg (M.1 9998 0)) (x3 + (2 : Int32)) && true)) (
        ob (qfr_listOf (M.1 9999 (Int32.toNatClampNeg (x3 + (1 : Int32)))) (M.1 9999 (Int32.toNatClampNeg (x3 + (2 : Int32)))) M) (fun r93 M94 =>
        ck (ib (Int32.toNatClampNeg (M94.1 9998 0)) (x3 + (1 : Int32)) && (ib (Int32.toNatClampNeg (M94.1 9998 0)) (x3 + (2 : Int32)) && true)) (
        ob (qmd_listOf (M94.1 9999 (Int32.toNatClampNeg (x3 + (1 : Int32)))) (M94.1 9999 (Int32.toNatClampNeg (x3 + (2 : Int32)))) M94) (fun r97 M98 =>
        if r93 = r97 then
        (qlw_law_L18 n (x3 + (8 : Int32)) M98) else
        (some ((0 : Int32), M98))))))) else
      (if ((M.1 9999 (Int32.toNatClampNeg x3)) &&& (63 : Int32)) = (10 : Int32) then
      (ck (ib (Int32.toNatClampNeg (M.1 9998 0)) (x3 + (1 : Int32)) && (ib (Int32.toNatClampNeg (M.1 9998 0)) (x3 + (2 : Int32)) && true)) (
        ob (qfr_worth (M.1 9999 (Int32.toNatClampNeg (x3 + (1 : Int32)))) (M.1 9999 (Int32.toNatClampNeg (x3 + (2 : Int32)))) M) (fun r103 M104 =>
        ck (ib (Int32.toNatClampNeg (M104.1 9998 0)) (x3 + (1 : Int32)) && (ib (Int32.toNatClampNeg (M104.1 9998 0)) (x3 + (2 : Int32)) && true)) (
        ob (qmd_worth (M104.1 9999 (Int32.toNatClampNeg (x3 + (1 : Int32)))) (M104.1 9999 (Int32.toNatClampNeg (x3 + (2 : Int32)))) M104) (fun r107 M108 =>
        if (lg_cmp r103 r107) = 0 then
        (qlw_law_L18 n (x3 + (8 : Int32)) M108) else
        (some ((0 : Int32), M108))))))) else
      (if ((M.1 9999 (Int32.toNatClampNeg x3)) &&& (63 : Int32)) = (11 : Int32) then
      (ck (ib (Int32.toNatClampNeg (M.1 9998 0)) (x3 + (1 : Int32)) && (ib (Int32.toNatClampNeg (M.1 9998 0)) (x3 + (2 : Int32)) && (ib (Int32.toNatClampNeg (M.1 9998 0)) (x3 + (3 : Int32)) && (ib (Int32.toNatClampNeg (M.1 9998 0)) (x3 + (4 : Int32)) && (ib (Int32.toNatClampNeg (M.1 9998 0)) (x3 + (5 : Int32)) && (ib (Int32.toNatClampNeg (M.1 9998 0)) (x3 + (6 : Int32)) && (ib (Int32.toNatClampNeg (M.1 9998 0)) (x3 + (7 : Int32)) && true))))))) (
        ob (qfr_entry (M.1 9999 (Int32.toNatClampNeg (x3 + (1 : Int32)))) (M.1 9999 (Int32.toNatClampNeg (x3 + (2 : Int32)))) (M.1 9999 (Int32.toNatClampNeg (x3 + (3 : Int32)))) (M.1 9999 (Int32.toNatClampNeg (x3 + (4 : Int32)))) (M.1 9999 (Int32.toNatClampNeg (x3 + (5 : Int32)))) (M.1 9999 (Int32.toNatClampNeg (x3 + (6 : Int32)))) (M.1 9999 (Int32.toNatClampNeg (x3 + (7 : Int32)))) M) (fun r113 M114 =>
        ck (ib (Int32.toNatClampNeg (M114.1 9998 0)) (x3 + (1 : Int32)) && (ib (Int32.toNatClampNeg (M114.1 9998 0)) (x3 + (2 : Int32)) && (ib (Int32.toNatClampNeg (M114.1 9998 0)) (x3 + (3 : Int32)) && (ib (Int32.toNatClampNeg (M114.1 9998 0)) (x3 + (4 : Int32)) && (ib (Int32.toNatClampNeg (M114.1 9998 0)) (x3 + (5 : Int32)) && (ib (Int32.toNatClampNeg (M114.1 9998 0)) (x3 + (6 : Int32)) && (ib (Int32.toNatClampNeg (M114.1 9998 0)) (x3 + (7 : Int32)) && true))))))) (
        ob (qmd_entry (M114.1 9999 (Int32.toNatClampNeg (x3 + (1 : Int32)))) (M114.1 9999 (Int32.toNatClampNeg (x3 + (2 : Int32)))) (M114.1 9999 (Int32.toNatClampNeg (x3 + (3 : Int32)))) (M114.1 9999 (Int32.toNatClampNeg (x3 + (4 : Int32)))) (M114.1 9999 (Int32.toNatClampNeg (x3 + (5 : Int32)))) (M114.1 9999 (Int32.toNatClampNeg (x3 + (6 : Int32)))) (M114.1 9999 (Int32.toNatClampNeg (x3 + (7 : Int32)))) M114) (fun r117 M118 =>
        if r113 = r117 then
        (qlw_law_L18 n (x3 + (8 : Int32)) M118) else
        (some ((0 : Int32), M118))))))) else
      (if ((M.1 9999 (Int32.toNatClampNeg x3)) &&& (63 : Int32)) = (12 : Int32) then
      (ck (ib (Int32.toNatClampNeg (M.1 9998 0)) (x3 + (1 : Int32)) && (ib (Int32.toNatClampNeg (M.1 9998 0)) (x3 + (2 : Int32)) && (ib (Int32.toNatClampNeg (M.1 9998 0)) (x3 + (3 : Int32)) && (ib (Int32.toNatClampNeg (M.1 9998 0)) (x3 + (4 : Int32)) && true)))) (
        ob (qfr_week (M.1 9999 (Int32.toNatClampNeg (x3 + (1 : Int32)))) (M.1 9999 (Int32.toNatClampNeg (x3 + (2 : Int32)))) (M.1 9999 (Int32.toNatClampNeg (x3 + (3 : Int32)))) (M.1 9999 (Int32.toNatClampNeg (x3 + (4 : Int32)))) M) (fun r123 M124 =>
        ck (ib (Int32.toNatClampNeg (M124.1 9998 0)) (x3 + (1 : Int32)) && (ib (Int32.toNatClampNeg (M124.1 9998 0)) (x3 + (2 : Int32)) && (ib (Int32.toNatClampNeg (M124.1 9998 0)) (x3 + (3 : Int32)) && (ib (Int32.toNatClampNeg (M124.1 9998 0)) (x3 + (4 : Int32)) && true)))) (
        ob (qmd_week (M124.1 9999 (Int32.toNatClampNeg (x3 + (1 : Int32)))) (M124.1 9999 (Int32.toNatClampNeg (x3 + (2 : Int32)))) (M124.1 9999 (Int32.toNatClampNeg (x3 + (3 : Int32)))) (M124.1 9999 (Int32.toNatClampNeg (x3 + (4 : Int32)))) M124) (fun r127 M128 =>
        if (lg_cmp r123 r127) = 0 then
        (qlw_law_L18 n (x3 + (8 : Int32)) M128) else
        (some ((0 : Int32), M128))))))) else
      (if ((M.1 9999 (Int32.toNatClampNeg x3)) &&& (63 : Int32)) = (13 : Int32) then
      (ck (ib (Int32.toNatClampNeg (M.1 9998 0)) (x3 + (1 : Int32)) && (ib (Int32.toNatClampNeg (M.1 9998 0)) (x3 + (2 : Int32)) && (ib (Int32.toNatClampNeg (M.1 9998 0)) (x3 + (3 : Int32)) && (ib (Int32.toNatClampNeg (M.1 9998 0)) (x3 + (4 : Int32)) && true)))) (
        jn (fun (x3_133 : Int32) (t134 : Int32) (M135 : SM) =>
          ob (qfr_earned (M.1 9999 (Int32.toNatClampNeg (x3 + (1 : Int32)))) (M.1 9999 (Int32.toNatClampNeg (x3 + (2 : Int32)))) (M.1 9999 (Int32.toNatClampNeg (x3 + (3 : Int32)))) t134 M135) (fun r136 M137 =>
            ck (ib (Int32.toNatClampNeg (M137.1 9998 0)) (x3_133 + (1 : Int32)) && (ib (Int32.toNatClampNeg (M137.1 9998 0)) (x3_133 + (2 : Int32)) && (ib (Int32.toNatClampNeg (M137.1 9998 0)) (x3_133 + (3 : Int32)) && (ib (Int32.toNatClampNeg (M137.1 9998 0)) (x3_133 + (4 : Int32)) && true)))) (
            jn (fun (x3_140 : Int32) (t141 : Int32) (M142 : SM) =>
              ob (qmd_earned (M137.1 9999 (Int32.toNatClampNeg (x3_133 + (1 : Int32)))) (M137.1 9999 (Int32.toNatClampNeg (x3_133 + (2 : Int32)))) (M137.1 9999 (Int32.toNatClampNeg (x3_133 + (3 : Int32)))) t141 M142) (fun r143 M144 =>
                if (lg_cmp r136 r143) = 0 then
                (qlw_law_L18 n (x3_140 + (8 : Int32)) M144) else
                (some ((0 : Int32), M144)))) (fun j147 =>
            if (M137.1 9999 (Int32.toNatClampNeg (x3_133 + (4 : Int32)))) = 0 then
            (j147 x3_133 (0 : Int32) M137) else
            (j147 x3_133 (1 : Int32) M137))))) (fun j149 =>
        if (M.1 9999 (Int32.toNatClampNeg (x3 + (4 : Int32)))) = 0 then
        (j149 x3 (0 : Int32) M) else
        (j149 x3 (1 : Int32) M)))) else
      (if ((M.1 9999 (Int32.toNatClampNeg x3)) &&& (63 : Int32)) = (14 : Int32) then
      (ck (ib (Int32.toNatClampNeg (M.1 9998 0)) (x3 + (1 : Int32)) && (ib (Int32.toNatClampNeg (M.1 9998 0)) (x3 + (2 : Int32)) && true)) (
        ob (qfr_number (M.1 9999 (Int32.toNatClampNeg (x3 + (1 : Int32)))) (M.1 9999 (Int32.toNatClampNeg (x3 + (2 : Int32)))) M) (fun r153 M154 =>
        ck (ib (Int32.toNatClampNeg (M154.1 9998 0)) (x3 + (1 : Int32)) && (ib (Int32.toNatClampNeg (M154.1 9998 0)) (x3 + (2 : Int32)) && true)) (
        ob (qmd_number (M154.1 9999 (Int32.toNatClampNeg (x3 + (1 : Int32)))) (M154.1 9999 (Int32.toNatClampNeg (x3 + (2 : Int32)))) M154) (fun r157 M158 =>
        if r153 = r157 then
        (qlw_law_L18 n (x3 + (8 : Int32)) M158) else
        (some ((0 : Int32), M158))))))) else
      (if ((M.1 9999 (Int32.toNatClampNeg x3)) &&& (63 : Int32)) = (15 : Int32) then
      (ck (ib (Int32.toNatClampNeg (M.1 9998 0)) (x3 + (1 : Int32)) && true) (
        ob (qfr_amiss (M.1 9999 (Int32.toNatClampNeg (x3 + (1 : Int32)))) M) (fun r163 M164 =>
        ck (ib (Int32.toNatClampNeg (M164.1 9998 0)) (x3 + (1 : Int32)) && true) (
        ob (qmd_amiss (M164.1 9999 (Int32.toNatClampNeg (x3 + (1 : Int32)))) M164) (fun r167 M168 =>
        if r163 = r167 then
        (qlw_law_L18 n (x3 + (8 : Int32)) M168) else
        (some ((0 : Int32), M168))))))) else
      (if ((M.1 9999 (Int32.toNatClampNeg x3)) &&& (63 : Int32)) = (16 : Int32) then
      (ck (ib (Int32.toNatClampNeg (M.1 9998 0)) (x3 + (1 : Int32)) && (ib (Int32.toNatClampNeg (M.1 9998 0)) (x3 + (2 : Int32)) && (ib (Int32.toNatClampNeg (M.1 9998 0)) (x3 + (3 : Int32)) && (ib (Int32.toNatClampNeg (M.1 9998 0)) (x3 + (4 : Int32)) && true)))) (
        ob (qfr_tells (M.1 9999 (Int32.toNatClampNeg (x3 + (1 : Int32)))) (M.1 9999 (Int32.toNatClampNeg (x3 + (2 : Int32)))) (M.1 9999 (Int32.toNatClampNeg (x3 + (3 : Int32)))) (M.1 9999 (Int32.toNatClampNeg (x3 + (4 : Int32)))) M) (fun r173 M174 =>
        ck (ib (Int32.toNatClampNeg (M174.1 9998 0)) (x3 + (1 : Int32)) && (ib (Int32.toNatClampNeg (M174.1 9998 0)) (x3 + (2 : Int32)) && (ib (Int32.toNatClampNeg (M174.1 9998 0)) (x3 + (3 : Int32)) && (ib (Int32.toNatClampNeg (M174.1 9998 0)) (x3 + (4 : Int32)) && true)))) (
        ob (qmd_tells (M174.1 9999 (Int32.toNatClampNeg (x3 + (1 : Int32)))) (M174.1 9999 (Int32.toNatClampNeg (x3 + (2 : Int32)))) (M174.1 9999 (Int32.toNatClampNeg (x3 + (3 : Int32)))) (M174.1 9999 (Int32.toNatClampNeg (x3 + (4 : Int32)))) M174) (fun r177 M178 =>
        if r173 = r177 then
        (qlw_law_L18 n (x3 + (8 : Int32)) M178) else
        (some ((0 : Int32), M178))))))) else
      (if ((M.1 9999 (Int32.toNatClampNeg x3)) &&& (63 : Int32)) = (17 : Int32) then
      (ck (ib (Int32.toNatClampNeg (M.1 9998 0)) (x3 + (1 : Int32)) && (ib (Int32.toNatClampNeg (M.1 9998 0)) (x3 + (2 : Int32)) && (ib (Int32.toNatClampNeg (M.1 9998 0)) (x3 + (3 : Int32)) && true))) (
        ob (qfr_differs (M.1 9999 (Int32.toNatClampNeg (x3 + (1 : Int32)))) (M.1 9999 (Int32.toNatClampNeg (x3 + (2 : Int32)))) (M.1 9999 (Int32.toNatClampNeg (x3 + (3 : Int32)))) M) (fun r183 M184 =>
        ck (ib (Int32.toNatClampNeg (M184.1 9998 0)) (x3 + (1 : Int32)) && (ib (Int32.toNatClampNeg (M184.1 9998 0)) (x3 + (2 : Int32)) && (ib (Int32.toNatClampNeg (M184.1 9998 0)) (x3 + (3 : Int32)) && true))) (
        ob (qmd_differs (M184.1 9999 (Int32.toNatClampNeg (x3 + (1 : Int32)))) (M184.1 9999 (Int32.toNatClampNeg (x3 + (2 : Int32)))) (M184.1 9999 (Int32.toNatClampNeg (x3 + (3 : Int32)))) M184) (fun r187 M188 =>
        if r183 = r187 then
        (qlw_law_L18 n (x3 + (8 : Int32)) M188) else
        (some ((0 : Int32), M188))))))) else
      (if ((M.1 9999 (Int32.toNatClampNeg x3)) &&& (63 : Int32)) = (18 : Int32) then
      (ck (ib (Int32.toNatClampNeg (M.1 9998 0)) (x3 + (1 : Int32)) && (ib (Int32.toNatClampNeg (M.1 9998 0)) (x3 + (2 : Int32)) && (ib (Int32.toNatClampNeg (M.1 9998 0)) (x3 + (3 : Int32)) && (ib (Int32.toNatClampNeg (M.1 9998 0)) (x3 + (4 : Int32)) && (ib (Int32.toNatClampNeg (M.1 9998 0)) (x3 + (5 : Int32)) && (ib (Int32.toNatClampNeg (M.1 9998 0)) (x3 + (6 : Int32)) && true)))))) (
        ob (qfr_spread (M.1 9999 (Int32.toNatClampNeg (x3 + (1 : Int32)))) (M.1 9999 (Int32.toNatClampNeg (x3 + (2 : Int32)))) (M.1 9999 (Int32.toNatClampNeg (x3 + (3 : Int32)))) (M.1 9999 (Int32.toNatClampNeg (x3 + (4 : Int32)))) (M.1 9999 (Int32.toNatClampNeg (x3 + (5 : Int32)))) (M.1 9999 (Int32.toNatClampNeg (x3 + (6 : Int32)))) M) (fun r193 M194 =>
        ck (ib (Int32.toNatClampNeg (M194.1 9998 0)) (x3 + (1 : Int32)) && (ib (Int32.toNatClampNeg (M194.1 9998 0)) (x3 + (2 : Int32)) && (ib (Int32.toNatClampNeg (M194.1 9998 0)) (x3 + (3 : Int32)) && (ib (Int32.toNatClampNeg (M194.1 9998 0)) (x3 + (4 : Int32)) && (ib (Int32.toNatClampNeg (M194.1 9998 0)) (x3 + (5 : Int32)) && (ib (Int32.toNatClampNeg (M194.1 9998 0)) (x3 + (6 : Int32)) && true)))))) (
        ob (qmd_spread (M194.1 9999 (Int32.toNatClampNeg (x3 + (1 : Int32)))) (M194.1 9999 (Int32.toNatClampNeg (x3 + (2 : Int32)))) (M194.1 9999 (Int32.toNatClampNeg (x3 + (3 : Int32)))) (M194.1 9999 (Int32.toNatClampNeg (x3 + (4 : Int32)))) (M194.1 9999 (Int32.toNatClampNeg (x3 + (5 : Int32)))) (M194.1 9999 (Int32.toNatClampNeg (x3 + (6 : Int32)))) M194) (fun r197 M198 =>
        if (lg_cmp r193 r197) = 0 then
        (qlw_law_L18 n (x3 + (8 : Int32)) M198) else
        (some ((0 : Int32), M198))))))) else
      (if ((M.1 9999 (Int32.toNatClampNeg x3)) &&& (63 : Int32)) = (19 : Int32) then
      (ck (ib (Int32.toNatClampNeg (M.1 9998 0)) (x3 + (1 : Int32)) && true) (
        ob (qfr_share (M.1 9999 (Int32.toNatClampNeg (x3 + (1 : Int32)))) M) (fun r203 M204 =>
        ck (ib (Int32.toNatClampNeg (M204.1 9998 0)) (x3 + (1 : Int32)) && true) (
        ob (qmd_share (M204.1 9999 (Int32.toNatClampNeg (x3 + (1 : Int32)))) M204) (fun r207 M208 =>
        if r203 = r207 then
        (qlw_law_L18 n (x3 + (8 : Int32)) M208) else
        (some ((0 : Int32), M208))))))) else
      (if ((M.1 9999 (Int32.toNatClampNeg x3)) &&& (63 : Int32)) = (20 : Int32) then
      (ck (ib (Int32.toNatClampNeg (M.1 9998 0)) (x3 + (1 : Int32)) && true) (
        ob (qfr_judge (M.1 9999 (Int32.toNatClampNeg (x3 + (1 : Int32)))) M) (fun r213 M214 =>
        ck (ib (Int32.toNatClampNeg (M214.1 9998 0)) (x3 + (1 : Int32)) && true) (
        ob (qmd_judge (M214.1 9999 (Int32.toNatClampNeg (x3 + (1 : Int32)))) M214) (fun r217 M218 =>
        if (lg_cmp r213 r217) = 0 then
        (qlw_law_L18 n (x3 + (8 : Int32)) M218) else
        (some ((0 : Int32), M218))))))) else
      (if ((M.1 9999 (Int32.toNatClampNeg x3)) &&& (63 : Int32)) = (21 : Int32) then
      (ck (ib (Int32.toNatClampNeg (M.1 9998 0)) (x3 + (1 : Int32)) && (ib (Int32.toNatClampNeg (M.1 9998 0)) (x3 + (2 : Int32)) && (ib (Int32.toNatClampNeg (M.1 9998 0)) (x3 + (3 : Int32)) && (ib (Int32.toNatClampNeg (M.1 9998 0)) (x3 + (4 : Int32)) && true)))) (
        ob (qfr_beside (M.1 9999 (Int32.toNatClampNeg (x3 + (1 : Int32)))) (M.1 9999 (Int32.toNatClampNeg (x3 + (2 : Int32)))) (M.1 9999 (Int32.toNatClampNeg (x3 + (3 : Int32)))) (M.1 9999 (Int32.toNatClampNeg (x3 + (4 : Int32)))) M) (fun r223 M224 =>
        ck (ib (Int32.toNatClampNeg (M224.1 9998 0)) (x3 + (1 : Int32)) && (ib (Int32.toNatClampNeg (M224.1 9998 0)) (x3 + (2 : Int32)) && (ib (Int32.toNatClampNeg (M224.1 9998 0)) (x3 + (3 : Int32)) && (ib (Int32.toNatClampNeg (M224.1 9998 0)) (x3 + (4 : Int32)) && true)))) (
        ob (qmd_beside (M224.1 9999 (Int32.toNatClampNeg (x3 + (1 : Int32)))) (M224.1 9999 (Int32.toNatClampNeg (x3 + (2 : Int32)))) (M224.1 9999 (Int32.toNatClampNeg (x3 + (3 : Int32)))) (M224.1 9999 (Int32.toNatClampNeg (x3 + (4 : Int32)))) M224) (fun r227 M228 =>
        if (lg_cmp r223 r227) = 0 then
        (qlw_law_L18 n (x3 + (8 : Int32)) M228) else
        (some ((0 : Int32), M228))))))) else
      (if ((M.1 9999 (Int32.toNatClampNeg x3)) &&& (63 : Int32)) = (22 : Int32) then
      (ck (ib (Int32.toNatClampNeg (M.1 9998 0)) (x3 + (1 : Int32)) && true) (
        ob (qfr_lot (M.1 9999 (Int32.toNatClampNeg (x3 + (1 : Int32)))) M) (fun r233 M234 =>
        ck (ib (Int32.toNatClampNeg (M234.1 9998 0)) (x3 + (1 : Int32)) && true) (
        ob (qmd_lot (M234.1 9999 (Int32.toNatClampNeg (x3 + (1 : Int32)))) M234) (fun r237 M238 =>
        if r233 = r237 then
        (qlw_law_L18 n (x3 + (8 : Int32)) M238) else
        (some ((0 : Int32), M238))))))) else
      (if ((M.1 9999 (Int32.toNatClampNeg x3)) &&& (63 : Int32)) = (23 : Int32) then
      (ck (ib (Int32.toNatClampNeg (M.1 9998 0)) (x3 + (1 : Int32)) && (ib (Int32.toNatClampNeg (M.1 9998 0)) (x3 + (2 : Int32)) && true)) (
        ob (qfr_told (M.1 9999 (Int32.toNatClampNeg (x3 + (1 : Int32)))) (M.1 9999 (Int32.toNatClampNeg (x3 + (2 : Int32)))) M) (fun r243 M244 =>
        ck (ib (Int32.toNatClampNeg (M244.1 9998 0)) (x3 + (1 : Int32)) && (ib (Int32.toNatClampNeg (M244.1 9998 0)) (x3 + (2 : Int32)) && true)) (
        ob (qmd_told (M244.1 9999 (Int32.toNatClampNeg (x3 + (1 : Int32)))) (M244.1 9999 (Int32.toNatClampNeg (x3 + (2 : Int32)))) M244) (fun r247 M248 =>
        if r243 = r247 then
        (qlw_law_L18 n (x3 + (8 : Int32)) M248) else
        (some ((0 : Int32), M248))))))) else
      (if ((M.1 9999 (Int32.toNatClampNeg x3)) &&& (63 : Int32)) = (24 : Int32) then
      (ck (ib (Int32.toNatClampNeg (M.1 9998 0)) (x3 + (1 : Int32)) && true) (
        ob (qfr_is (M.1 9999 (Int32.toNatClampNeg (x3 + (1 : Int32)))) M) (fun r253 M254 =>
        ck (ib (Int32.toNatClampNeg (M254.1 9998 0)) (x3 + (1 : Int32)) && true) (
        ob (qmd_is (M254.1 9999 (Int32.toNatClampNeg (x3 + (1 : Int32)))) M254) (fun r257 M258 =>
        if r253 = r257 then
        (qlw_law_L18 n (x3 + (8 : Int32)) M258) else
        (some ((0 : Int32), M258))))))) else
      (if ((M.1 9999 (Int32.toNatClampNeg x3)) &&& (63 : Int32)) = (25 : Int32) then
      (ck (ib (Int32.toNatClampNeg (M.1 9998 0)) (x3 + (1 : Int32)) && (ib (Int32.toNatClampNeg (M.1 9998 0)) (x3 + (2 : Int32)) && (ib (Int32.toNatClampNeg (M.1 9998 0)) (x3 + (3 : Int32)) && true))) (
        ob (qfr_owes (M.1 9999 (Int32.toNatClampNeg (x3 + (1 : Int32)))) (M.1 9999 (Int32.toNatClampNeg (x3 + (2 : Int32)))) (M.1 9999 (Int32.toNatClampNeg (x3 + (3 : Int32)))) M) (fun r263 M264 =>
        ck (ib (Int32.toNatClampNeg (M264.1 9998 0)) (x3 + (1 : Int32)) && (ib (Int32.toNatClampNeg (M264.1 9998 0)) (x3 + (2 : Int32)) && (ib (Int32.toNatClampNeg (M264.1 9998 0)) (x3 + (3 : Int32)) && true))) (
        ob (qmd_owes (M264.1 9999 (Int32.toNatClampNeg (x3 + (1 : Int32)))) (M264.1 9999 (Int32.toNatClampNeg (x3 + (2 : Int32)))) (M264.1 9999 (Int32.toNatClampNeg (x3 + (3 : Int32)))) M264) (fun r267 M268 =>
        if r263 = r267 then
        (qlw_law_L18 n (x3 + (8 : Int32)) M268) else
        (some ((0 : Int32), M268))))))) else
      (if ((M.1 9999 (Int32.toNatClampNeg x3)) &&& (63 : Int32)) = (26 : Int32) then
      (ck (ib (Int32.toNatClampNeg (M.1 9998 0)) (x3 + (1 : Int32)) && true) (
        ob (qfr_net (M.1 9999 (Int32.toNatClampNeg (x3 + (1 : Int32)))) M) (fun r273 M274 =>
        ck (ib (Int32.toNatClampNeg (M274.1 9998 0)) (x3 + (1 : Int32)) && true) (
        ob (qmd_net (M274.1 9999 (Int32.toNatClampNeg (x3 + (1 : Int32)))) M274) (fun r277 M278 =>
        if (lg_cmp r273 r277) = 0 then
        (qlw_law_L18 n (x3 + (8 : Int32)) M278) else
        (some ((0 : Int32), M278))))))) else
      (if ((M.1 9999 (Int32.toNatClampNeg x3)) &&& (63 : Int32)) = (27 : Int32) then
      (ob (qfr_payments M) (fun r282 M283 =>
        ob (qmd_payments M283) (fun r285 M286 =>
        if r282 = r285 then
        (qlw_law_L18 n (x3 + (8 : Int32)) M286) else
        (some ((0 : Int32), M286))))) else
      (if ((M.1 9999 (Int32.toNatClampNeg x3)) &&& (63 : Int32)) = (28 : Int32) then
      (ob (qfr_clear M) (fun r290 M291 =>
        ob (qmd_clear M291) (fun r293 M294 =>
        if r290 = r293 then
        (qlw_law_L18 n (x3 + (8 : Int32)) M294) else
        (some ((0 : Int32), M294))))) else
      (if ((M.1 9999 (Int32.toNatClampNeg x3)) &&& (63 : Int32)) = (29 : Int32) then
      (ck (ib (Int32.toNatClampNeg (M.1 9998 0)) (x3 + (1 : Int32)) && true) (
        ob (qfr_fund (M.1 9999 (Int32.toNatClampNeg (x3 + (1 : Int32)))) M) (fun r299 M300 =>
        ck (ib (Int32.toNatClampNeg (M300.1 9998 0)) (x3 + (1 : Int32)) && true) (
        ob (qmd_fund (M300.1 9999 (Int32.toNatClampNeg (x3 + (1 : Int32)))) M300) (fun r303 M304 =>
        if r299 = r303 then
        (qlw_law_L18 n (x3 + (8 : Int32)) M304) else
        (some ((0 : Int32), M304))))))) else
      (if ((M.1 9999 (Int32.toNatClampNeg x3)) &&& (63 : Int32)) = (30 : Int32) then
      (ck (ib (Int32.toNatClampNeg (M.1 9998 0)) (x3 + (1 : Int32)) && (ib (Int32.toNatClampNeg (M.1 9998 0)) (x3 + (2 : Int32)) && true)) (
        jn (fun (x3_309 : Int32) (t310 : Int32) (M311 : SM) =>
          ob (qfr_strike (M.1 9999 (Int32.toNatClampNeg (x3 + (1 : Int32)))) t310 M311) (fun r312 M313 =>
            ck (ib (Int32.toNatClampNeg (M313.1 9998 0)) (x3_309 + (1 : Int32)) && (ib (Int32.toNatClampNeg (M313.1 9998 0)) (x3_309 + (2 : Int32)) && true)) (
            jn (fun (x3_316 : Int32) (t317 : Int32) (M318 : SM) =>
              ob (qmd_strike (M313.1 9999 (Int32.toNatClampNeg (x3_309 + (1 : Int32)))) t317 M318) (fun r319 M320 =>
                if r312 = r319 then
                (qlw_law_L18 n (x3_316 + (8 : Int32)) M320) else
                (some ((0 : Int32), M320)))) (fun j323 =>
            if (M313.1 9999 (Int32.toNatClampNeg (x3_309 + (2 : Int32)))) = 0 then
            (j323 x3_309 (0 : Int32) M313) else
            (j323 x3_309 (1 : Int32) M313))))) (fun j325 =>
        if (M.1 9999 (Int32.toNatClampNeg (x3 + (2 : Int32)))) = 0 then
        (j325 x3 (0 : Int32) M) else
        (j325 x3 (1 : Int32) M)))) else
      (if ((M.1 9999 (Int32.toNatClampNeg x3)) &&& (63 : Int32)) = (31 : Int32) then
      (ob (qfr_lasts M) (fun r328 M329 =>
        ob (qmd_lasts M329) (fun r331 M332 =>
        if r328 = r331 then
        (qlw_law_L18 n (x3 + (8 : Int32)) M332) else
        (some ((0 : Int32), M332))))) else
      (if ((M.1 9999 (Int32.toNatClampNeg x3)) &&& (63 : Int32)) = (32 : Int32) then
      (ob (qfr_goes M) (fun r336 M337 =>
        ob (qmd_goes M337) (fun r339 M340 =>
        if r336 = r339 then
        (qlw_law_L18 n (x3 + (8 : Int32)) M340) else
        (some ((0 : Int32), M340))))) else
      (if ((M.1 9999 (Int32.toNatClampNeg x3)) &&& (63 : Int32)) = (33 : Int32) then
      (ck (ib (Int32.toNatClampNeg (M.1 9998 0)) (x3 + (1 : Int32)) && (ib (Int32.toNatClampNeg (M.1 9998 0)) (x3 + (2 : Int32)) && true)) (
        ob (qfr_look (M.1 9999 (Int32.toNatClampNeg (x3 + (1 : Int32)))) (M.1 9999 (Int32.toNatClampNeg (x3 + (2 : Int32)))) M) (fun r345 M346 =>
        ck (ib (Int32.toNatClampNeg (M346.1 9998 0)) (x3 + (1 : Int32)) && (ib (Int32.toNatClampNeg (M346.1 9998 0)) (x3 + (2 : Int32)) && true)) (
        ob (qmd_look (M346.1 9999 (Int32.toNatClampNeg (x3 + (1 : Int32)))) (M346.1 9999 (Int32.toNatClampNeg (x3 + (2 : Int32)))) M346) (fun r349 M350 =>
        if r345 = r349 then
        (qlw_law_L18 n (x3 + (8 : Int32)) M350) else
        (some ((0 : Int32), M350))))))) else
      (if ((M.1 9999 (Int32.toNatClampNeg x3)) &&& (63 : Int32)) = (34 : Int32) then
      (ck (ib (Int32.toNatClampNeg (M.1 9998 0)) (x3 + (1 : Int32)) && true) (
        ob (qfr_count (M.1 9999 (Int32.toNatClampNeg (x3 + (1 : Int32)))) M) (fun r355 M356 =>
        ck (ib (Int32.toNatClampNeg (M356.1 9998 0)) (x3 + (1 : Int32)) && true) (
        ob (qmd_count (M356.1 9999 (Int32.toNatClampNeg (x3 + (1 : Int32)))) M356) (fun r359 M360 =>
        if r355 = r359 then
        (qlw_law_L18 n (x3 + (8 : Int32)) M360) else
        (some ((0 : Int32), M360))))))) else
      (qlw_law_L18 n (x3 + (8 : Int32)) M)))))))))))))))))))))))))))))))))))))
set_option maxRecDepth 20000 in
theorem qlw_law_L18_ok (d : Nat) (hd : 104 ≤ d + 1) : ∀ (n : Nat) (x3 : Int32) (M : SM) (r : Int32) (Mz : SM), qlw_law_L18 n x3 M = some (r, Mz) → Rc (d + 1) 1400 (18, [.retAddr 1, .ref 0, .ref 280, .int x3], [], gm M) (some (.int r), gm Mz) := by
  intro n
  induction n with
  | zero => intro x3 M r Mz hs; cases hs
  | succ n ih =>
    intro x3 M r Mz hs
    rw [qlw_law_L18] at hs
    by_cases h364 : ((M.1 9998 0) - (8 : Int32)) < x3
    · rw [if_pos h364] at hs
      refine Rc.goL mt_1400 5 (f2 := (if ((M.1 9998 0) - (8 : Int32)) < x3 then 1434 else 27, [.retAddr 1, .ref 0, .ref 280, .int x3], [], gm M)) (b := true) rfl rfl ?_
      rw [if_pos h364]
      refine Rc.goL mt_1400 0 (f2 := (1435, [.retAddr 1, .ref 0, .ref 280, .int x3], [.int (1 : Int32)], gm M)) (b := true) rfl rfl ?_
      obtain ⟨e1, e2⟩ := some_p hs; subst e1; subst e2
      exact Rc.ret (v := some (.int (1 : Int32))) rfl rfl
    · rw [if_neg h364] at hs
      refine Rc.goL mt_1400 5 (f2 := (if ((M.1 9998 0) - (8 : Int32)) < x3 then 1434 else 27, [.retAddr 1, .ref 0, .ref 280, .int x3], [], gm M)) (b := true) rfl rfl ?_
      rw [if_neg h364]
      obtain ⟨hb1, hs⟩ := ck_some hs
      refine Rc.goL mt_1400 5 (f2 := (swl [(0, 188), (1, 211), (2, 234), (3, 277), (4, 310), (5, 333), (6, 396), (7, 419), (8, 462), (9, 495), (10, 528), (11, 562), (12, 649), (13, 703), (14, 773), (15, 806), (16, 829), (17, 882), (18, 925), (19, 1001), (20, 1024), (21, 1048), (22, 1102), (23, 1125), (24, 1158), (25, 1181), (26, 1224), (27, 1248), (28, 1261), (29, 1274), (30, 1297), (31, 1346), (32, 1359), (33, 1372), (34, 1405)] 1428 ((M.1 9999 (Int32.toNatClampNeg x3)) &&& (63 : Int32)), [.retAddr 1, .ref 0, .ref 280, .int x3], [], gm M)) (b := (ib (Int32.toNatClampNeg (M.1 9998 0)) x3 && true)) rfl hb1 ?_
      by_cases h11 : ((M.1 9999 (Int32.toNatClampNeg x3)) &&& (63 : Int32)) = (0 : Int32)
      · rw [if_pos h11] at hs
        rw [show swl [(0, 188), (1, 211), (2, 234), (3, 277), (4, 310), (5, 333), (6, 396), (7, 419), (8, 462), (9, 495), (10, 528), (11, 562), (12, 649), (13, 703), (14, 773), (15, 806), (16, 829), (17, 882), (18, 925), (19, 1001), (20, 1024), (21, 1048), (22, 1102), (23, 1125), (24, 1158), (25, 1181), (26, 1224), (27, 1248), (28, 1261), (29, 1274), (30, 1297), (31, 1346), (32, 1359), (33, 1372), (34, 1405)] 1428 ((M.1 9999 (Int32.toNatClampNeg x3)) &&& (63 : Int32)) = 188 by first | (simp only [swl, if_pos h11]; done) | (rw [h11]; decide)]
        obtain ⟨hb2, hs⟩ := ck_some hs
        refine Rc.goL mt_1400 5 (f2 := (194, [.retAddr 1, .ref 0, .ref 280, .int x3], [.int (M.1 9999 (Int32.toNatClampNeg (x3 + (1 : Int32)))), .ref 0], gm M)) (b := (ib (Int32.toNatClampNeg (M.1 9998 0)) (x3 + (1 : Int32)) && true)) rfl hb2 ?_
        obtain ⟨r3, M4, he5, hs⟩ := ob_some hs
        refine Rc.callV (i := 13) (mid' := 1101) (av := [.int (M.1 9999 (Int32.toNatClampNeg (x3 + (1 : Int32))))]) (rest := []) (v := some (.int r3)) (M1 := gm M4) (a := 0) rfl rfl rfl cw_1101 rfl (Nat.le_of_ble_eq_true rfl) rfl (Nat.le_of_ble_eq_true rfl) (qfr_master_ok _ (by omega) he5) ?_
        obtain ⟨hb6, hs⟩ := ck_some hs
        refine Rc.goL mt_1400 5 (f2 := (203, [.retAddr 1, .ref 0, .ref 280, .int x3], [.int (M4.1 9999 (Int32.toNatClampNeg (x3 + (1 : Int32)))), .ref 280, .int r3], gm M4)) (b := (ib (Int32.toNatClampNeg (M4.1 9998 0)) (x3 + (1 : Int32)) && true)) rfl hb6 ?_
        obtain ⟨r7, M8, he9, hs⟩ := ob_some hs
        refine Rc.callV (i := 17) (mid' := 1206) (av := [.int (M4.1 9999 (Int32.toNatClampNeg (x3 + (1 : Int32))))]) (rest := [.int r3]) (v := some (.int r7)) (M1 := gm M8) (a := 280) rfl rfl rfl cw_1206 rfl (Nat.le_of_ble_eq_true rfl) rfl (Nat.le_of_ble_eq_true rfl) (qmd_master_ok _ (by omega) he9) ?_
        by_cases h10 : r3 = r7
        · rw [if_pos h10] at hs
          refine Rc.goL mt_1400 0 (f2 := (if r3 = r7 then 1428 else 209, [.retAddr 1, .ref 0, .ref 280, .int x3], [], gm M8)) (b := true) rfl rfl ?_
          rw [if_pos h10]
          refine Rc.goL mt_1400 1 (f2 := (18, [.retAddr 1, .ref 0, .ref 280, .int (x3 + (8 : Int32))], [], gm M8)) (b := true) rfl rfl ?_
          refine Rc.less (ls2 := [.retAddr 1, .ref 0, .ref 280, .int (x3 + (8 : Int32))]) (by refine ⟨Or.inr rfl, Or.inr rfl, Or.inr rfl, Or.inr rfl, trivial⟩) ?_
          exact ih (x3 + (8 : Int32)) _ _ _ hs
        · rw [if_neg h10] at hs
          refine Rc.goL mt_1400 0 (f2 := (if r3 = r7 then 1428 else 209, [.retAddr 1, .ref 0, .ref 280, .int x3], [], gm M8)) (b := true) rfl rfl ?_
          rw [if_neg h10]
          refine Rc.goL mt_1400 0 (f2 := (210, [.retAddr 1, .ref 0, .ref 280, .int x3], [.int (0 : Int32)], gm M8)) (b := true) rfl rfl ?_
          obtain ⟨e1, e2⟩ := some_p hs; subst e1; subst e2
          exact Rc.ret (v := some (.int (0 : Int32))) rfl rfl
      · rw [if_neg h11] at hs
        by_cases h21 : ((M.1 9999 (Int32.toNatClampNeg x3)) &&& (63 : Int32)) = (1 : Int32)
        · rw [if_pos h21] at hs
          rw [show swl [(0, 188), (1, 211), (2, 234), (3, 277), (4, 310), (5, 333), (6, 396), (7, 419), (8, 462), (9, 495), (10, 528), (11, 562), (12, 649), (13, 703), (14, 773), (15, 806), (16, 829), (17, 882), (18, 925), (19, 1001), (20, 1024), (21, 1048), (22, 1102), (23, 1125), (24, 1158), (25, 1181), (26, 1224), (27, 1248), (28, 1261), (29, 1274), (30, 1297), (31, 1346), (32, 1359), (33, 1372), (34, 1405)] 1428 ((M.1 9999 (Int32.toNatClampNeg x3)) &&& (63 : Int32)) = 211 by first | (simp only [swl, if_pos h21]; done) | (rw [h21]; decide)]
          obtain ⟨hb12, hs⟩ := ck_some hs
          refine Rc.goL mt_1400 5 (f2 := (217, [.retAddr 1, .ref 0, .ref 280, .int x3], [.int (M.1 9999 (Int32.toNatClampNeg (x3 + (1 : Int32)))), .ref 0], gm M)) (b := (ib (Int32.toNatClampNeg (M.1 9998 0)) (x3 + (1 : Int32)) && true)) rfl hb12 ?_
          obtain ⟨r13, M14, he15, hs⟩ := ob_some hs
          refine Rc.callV (i := 18) (mid' := 1102) (av := [.int (M.1 9999 (Int32.toNatClampNeg (x3 + (1 : Int32))))]) (rest := []) (v := some (.int r13)) (M1 := gm M14) (a := 0) rfl rfl rfl cw_1102 rfl (Nat.le_of_ble_eq_true rfl) rfl (Nat.le_of_ble_eq_true rfl) (qfr_knitter_ok _ (by omega) he15) ?_
          obtain ⟨hb16, hs⟩ := ck_some hs
          refine Rc.goL mt_1400 5 (f2 := (226, [.retAddr 1, .ref 0, .ref 280, .int x3], [.int (M14.1 9999 (Int32.toNatClampNeg (x3 + (1 : Int32)))), .ref 280, .int r13], gm M14)) (b := (ib (Int32.toNatClampNeg (M14.1 9998 0)) (x3 + (1 : Int32)) && true)) rfl hb16 ?_
          obtain ⟨r17, M18, he19, hs⟩ := ob_some hs
          refine Rc.callV (i := 21) (mid' := 1207) (av := [.int (M14.1 9999 (Int32.toNatClampNeg (x3 + (1 : Int32))))]) (rest := [.int r13]) (v := some (.int r17)) (M1 := gm M18) (a := 280) rfl rfl rfl cw_1207 rfl (Nat.le_of_ble_eq_true rfl) rfl (Nat.le_of_ble_eq_true rfl) (qmd_knitter_ok _ (by omega) he19) ?_
          by_cases h20 : r13 = r17
          · rw [if_pos h20] at hs
            refine Rc.goL mt_1400 0 (f2 := (if r13 = r17 then 1428 else 232, [.retAddr 1, .ref 0, .ref 280, .int x3], [], gm M18)) (b := true) rfl rfl ?_
            rw [if_pos h20]
            refine Rc.goL mt_1400 1 (f2 := (18, [.retAddr 1, .ref 0, .ref 280, .int (x3 + (8 : Int32))], [], gm M18)) (b := true) rfl rfl ?_
            refine Rc.less (ls2 := [.retAddr 1, .ref 0, .ref 280, .int (x3 + (8 : Int32))]) (by refine ⟨Or.inr rfl, Or.inr rfl, Or.inr rfl, Or.inr rfl, trivial⟩) ?_
            exact ih (x3 + (8 : Int32)) _ _ _ hs
          · rw [if_neg h20] at hs
            refine Rc.goL mt_1400 0 (f2 := (if r13 = r17 then 1428 else 232, [.retAddr 1, .ref 0, .ref 280, .int x3], [], gm M18)) (b := true) rfl rfl ?_
            rw [if_neg h20]
            refine Rc.goL mt_1400 0 (f2 := (233, [.retAddr 1, .ref 0, .ref 280, .int x3], [.int (0 : Int32)], gm M18)) (b := true) rfl rfl ?_
            obtain ⟨e1, e2⟩ := some_p hs; subst e1; subst e2
            exact Rc.ret (v := some (.int (0 : Int32))) rfl rfl
        · rw [if_neg h21] at hs
          by_cases h31 : ((M.1 9999 (Int32.toNatClampNeg x3)) &&& (63 : Int32)) = (2 : Int32)
          · rw [if_pos h31] at hs
            rw [show swl [(0, 188), (1, 211), (2, 234), (3, 277), (4, 310), (5, 333), (6, 396), (7, 419), (8, 462), (9, 495), (10, 528), (11, 562), (12, 649), (13, 703), (14, 773), (15, 806), (16, 829), (17, 882), (18, 925), (19, 1001), (20, 1024), (21, 1048), (22, 1102), (23, 1125), (24, 1158), (25, 1181), (26, 1224), (27, 1248), (28, 1261), (29, 1274), (30, 1297), (31, 1346), (32, 1359), (33, 1372), (34, 1405)] 1428 ((M.1 9999 (Int32.toNatClampNeg x3)) &&& (63 : Int32)) = 234 by first | (simp only [swl, if_pos h31]; done) | (rw [h31]; decide)]
            obtain ⟨hb22, hs⟩ := ck_some hs
            obtain ⟨hb22_0, hb22⟩ := and_t hb22
            obtain ⟨hb22_1, hb22⟩ := and_t hb22
            obtain ⟨hb22_2, hb22⟩ := and_t hb22
            refine Rc.goL mt_1400 6 (f2 := (241, [.retAddr 1, .ref 0, .ref 280, .int x3], [.retAddr 1, .int (M.1 9999 (Int32.toNatClampNeg (x3 + (1 : Int32)))), .ref 0], gm M)) (b := (ib (Int32.toNatClampNeg (M.1 9998 0)) (x3 + (1 : Int32)) && true)) rfl (and_i hb22_0 rfl) ?_
            refine Rc.goL mt_1400 6 (f2 := (248, [.retAddr 1, .ref 0, .ref 280, .int x3], [.int (3 : Int32), .int x3, .retAddr 1, .int (M.1 9999 (Int32.toNatClampNeg (x3 + (2 : Int32)))), .int (M.1 9999 (Int32.toNatClampNeg (x3 + (1 : Int32)))), .ref 0], gm M)) (b := (ib (Int32.toNatClampNeg (M.1 9998 0)) (x3 + (2 : Int32)) && true)) rfl (and_i hb22_1 rfl) ?_
            refine Rc.goL mt_1400 1 (f2 := (250, [.retAddr 1, .ref 0, .ref 280, .int x3], [.int (M.1 9999 (Int32.toNatClampNeg (x3 + (3 : Int32)))), .int (M.1 9999 (Int32.toNatClampNeg (x3 + (2 : Int32)))), .int (M.1 9999 (Int32.toNatClampNeg (x3 + (1 : Int32)))), .ref 0], gm M)) (b := (ib (Int32.toNatClampNeg (M.1 9998 0)) (x3 + (3 : Int32)) && true)) rfl (and_i hb22_2 rfl) ?_
            obtain ⟨r23, M24, he25, hs⟩ := ob_some hs
            refine Rc.callV (i := 22) (mid' := 1103) (av := [.int (M.1 9999 (Int32.toNatClampNeg (x3 + (1 : Int32)))), .int (M.1 9999 (Int32.toNatClampNeg (x3 + (2 : Int32)))), .int (M.1 9999 (Int32.toNatClampNeg (x3 + (3 : Int32))))]) (rest := []) (v := some (.int r23)) (M1 := gm M24) (a := 0) rfl rfl rfl cw_1103 rfl (Nat.le_of_ble_eq_true rfl) rfl (Nat.le_of_ble_eq_true rfl) (qfr_frame_ok _ (by omega) he25) ?_
            obtain ⟨hb26, hs⟩ := ck_some hs
            obtain ⟨hb26_0, hb26⟩ := and_t hb26
            obtain ⟨hb26_1, hb26⟩ := and_t hb26
            obtain ⟨hb26_2, hb26⟩ := and_t hb26
            refine Rc.goL mt_1400 6 (f2 := (260, [.retAddr 1, .ref 0, .ref 280, .int x3], [.retAddr 1, .int (M24.1 9999 (Int32.toNatClampNeg (x3 + (1 : Int32)))), .ref 280, .int r23], gm M24)) (b := (ib (Int32.toNatClampNeg (M24.1 9998 0)) (x3 + (1 : Int32)) && true)) rfl (and_i hb26_0 rfl) ?_
            refine Rc.goL mt_1400 6 (f2 := (267, [.retAddr 1, .ref 0, .ref 280, .int x3], [.int (3 : Int32), .int x3, .retAddr 1, .int (M24.1 9999 (Int32.toNatClampNeg (x3 + (2 : Int32)))), .int (M24.1 9999 (Int32.toNatClampNeg (x3 + (1 : Int32)))), .ref 280, .int r23], gm M24)) (b := (ib (Int32.toNatClampNeg (M24.1 9998 0)) (x3 + (2 : Int32)) && true)) rfl (and_i hb26_1 rfl) ?_
            refine Rc.goL mt_1400 1 (f2 := (269, [.retAddr 1, .ref 0, .ref 280, .int x3], [.int (M24.1 9999 (Int32.toNatClampNeg (x3 + (3 : Int32)))), .int (M24.1 9999 (Int32.toNatClampNeg (x3 + (2 : Int32)))), .int (M24.1 9999 (Int32.toNatClampNeg (x3 + (1 : Int32)))), .ref 280, .int r23], gm M24)) (b := (ib (Int32.toNatClampNeg (M24.1 9998 0)) (x3 + (3 : Int32)) && true)) rfl (and_i hb26_2 rfl) ?_
            obtain ⟨r27, M28, he29, hs⟩ := ob_some hs
            refine Rc.callV (i := 26) (mid' := 1209) (av := [.int (M24.1 9999 (Int32.toNatClampNeg (x3 + (1 : Int32)))), .int (M24.1 9999 (Int32.toNatClampNeg (x3 + (2 : Int32)))), .int (M24.1 9999 (Int32.toNatClampNeg (x3 + (3 : Int32))))]) (rest := [.int r23]) (v := some (.int r27)) (M1 := gm M28) (a := 280) rfl rfl rfl cw_1209 rfl (Nat.le_of_ble_eq_true rfl) rfl (Nat.le_of_ble_eq_true rfl) (qmd_frame_ok _ (by omega) he29) ?_
            by_cases h30 : r23 = r27
            · rw [if_pos h30] at hs
              refine Rc.goL mt_1400 0 (f2 := (if r23 = r27 then 1428 else 275, [.retAddr 1, .ref 0, .ref 280, .int x3], [], gm M28)) (b := true) rfl rfl ?_
              rw [if_pos h30]
              refine Rc.goL mt_1400 1 (f2 := (18, [.retAddr 1, .ref 0, .ref 280, .int (x3 + (8 : Int32))], [], gm M28)) (b := true) rfl rfl ?_
              refine Rc.less (ls2 := [.retAddr 1, .ref 0, .ref 280, .int (x3 + (8 : Int32))]) (by refine ⟨Or.inr rfl, Or.inr rfl, Or.inr rfl, Or.inr rfl, trivial⟩) ?_
              exact ih (x3 + (8 : Int32)) _ _ _ hs
            · rw [if_neg h30] at hs
              refine Rc.goL mt_1400 0 (f2 := (if r23 = r27 then 1428 else 275, [.retAddr 1, .ref 0, .ref 280, .int x3], [], gm M28)) (b := true) rfl rfl ?_
              rw [if_neg h30]
              refine Rc.goL mt_1400 0 (f2 := (276, [.retAddr 1, .ref 0, .ref 280, .int x3], [.int (0 : Int32)], gm M28)) (b := true) rfl rfl ?_
              obtain ⟨e1, e2⟩ := some_p hs; subst e1; subst e2
              exact Rc.ret (v := some (.int (0 : Int32))) rfl rfl
          · rw [if_neg h31] at hs
            by_cases h41 : ((M.1 9999 (Int32.toNatClampNeg x3)) &&& (63 : Int32)) = (3 : Int32)
            · rw [if_pos h41] at hs
              rw [show swl [(0, 188), (1, 211), (2, 234), (3, 277), (4, 310), (5, 333), (6, 396), (7, 419), (8, 462), (9, 495), (10, 528), (11, 562), (12, 649), (13, 703), (14, 773), (15, 806), (16, 829), (17, 882), (18, 925), (19, 1001), (20, 1024), (21, 1048), (22, 1102), (23, 1125), (24, 1158), (25, 1181), (26, 1224), (27, 1248), (28, 1261), (29, 1274), (30, 1297), (31, 1346), (32, 1359), (33, 1372), (34, 1405)] 1428 ((M.1 9999 (Int32.toNatClampNeg x3)) &&& (63 : Int32)) = 277 by first | (simp only [swl, if_pos h41]; done) | (rw [h41]; decide)]
              obtain ⟨hb32, hs⟩ := ck_some hs
              obtain ⟨hb32_0, hb32⟩ := and_t hb32
              obtain ⟨hb32_1, hb32⟩ := and_t hb32
              refine Rc.goL mt_1400 6 (f2 := (284, [.retAddr 1, .ref 0, .ref 280, .int x3], [.retAddr 1, .int (M.1 9999 (Int32.toNatClampNeg (x3 + (1 : Int32)))), .ref 0], gm M)) (b := (ib (Int32.toNatClampNeg (M.1 9998 0)) (x3 + (1 : Int32)) && true)) rfl (and_i hb32_0 rfl) ?_
              refine Rc.goL mt_1400 3 (f2 := (288, [.retAddr 1, .ref 0, .ref 280, .int x3], [.int (M.1 9999 (Int32.toNatClampNeg (x3 + (2 : Int32)))), .int (M.1 9999 (Int32.toNatClampNeg (x3 + (1 : Int32)))), .ref 0], gm M)) (b := (ib (Int32.toNatClampNeg (M.1 9998 0)) (x3 + (2 : Int32)) && true)) rfl (and_i hb32_1 rfl) ?_
              obtain ⟨r33, M34, he35, hs⟩ := ob_some hs
              refine Rc.callV (i := 27) (mid' := 1104) (av := [.int (M.1 9999 (Int32.toNatClampNeg (x3 + (1 : Int32)))), .int (M.1 9999 (Int32.toNatClampNeg (x3 + (2 : Int32))))]) (rest := []) (v := some (.int r33)) (M1 := gm M34) (a := 0) rfl rfl rfl cw_1104 rfl (Nat.le_of_ble_eq_true rfl) rfl (Nat.le_of_ble_eq_true rfl) (qfr_hire_ok _ (by omega) he35) ?_
              obtain ⟨hb36, hs⟩ := ck_some hs
              obtain ⟨hb36_0, hb36⟩ := and_t hb36
              obtain ⟨hb36_1, hb36⟩ := and_t hb36
              refine Rc.goL mt_1400 6 (f2 := (298, [.retAddr 1, .ref 0, .ref 280, .int x3], [.retAddr 1, .int (M34.1 9999 (Int32.toNatClampNeg (x3 + (1 : Int32)))), .ref 280, .int r33], gm M34)) (b := (ib (Int32.toNatClampNeg (M34.1 9998 0)) (x3 + (1 : Int32)) && true)) rfl (and_i hb36_0 rfl) ?_
              refine Rc.goL mt_1400 3 (f2 := (302, [.retAddr 1, .ref 0, .ref 280, .int x3], [.int (M34.1 9999 (Int32.toNatClampNeg (x3 + (2 : Int32)))), .int (M34.1 9999 (Int32.toNatClampNeg (x3 + (1 : Int32)))), .ref 280, .int r33], gm M34)) (b := (ib (Int32.toNatClampNeg (M34.1 9998 0)) (x3 + (2 : Int32)) && true)) rfl (and_i hb36_1 rfl) ?_
              obtain ⟨r37, M38, he39, hs⟩ := ob_some hs
              refine Rc.callV (i := 31) (mid' := 1211) (av := [.int (M34.1 9999 (Int32.toNatClampNeg (x3 + (1 : Int32)))), .int (M34.1 9999 (Int32.toNatClampNeg (x3 + (2 : Int32))))]) (rest := [.int r33]) (v := some (.int r37)) (M1 := gm M38) (a := 280) rfl rfl rfl cw_1211 rfl (Nat.le_of_ble_eq_true rfl) rfl (Nat.le_of_ble_eq_true rfl) (qmd_hire_ok _ (by omega) he39) ?_
              by_cases h40 : r33 = r37
              · rw [if_pos h40] at hs
                refine Rc.goL mt_1400 0 (f2 := (if r33 = r37 then 1428 else 308, [.retAddr 1, .ref 0, .ref 280, .int x3], [], gm M38)) (b := true) rfl rfl ?_
                rw [if_pos h40]
                refine Rc.goL mt_1400 1 (f2 := (18, [.retAddr 1, .ref 0, .ref 280, .int (x3 + (8 : Int32))], [], gm M38)) (b := true) rfl rfl ?_
                refine Rc.less (ls2 := [.retAddr 1, .ref 0, .ref 280, .int (x3 + (8 : Int32))]) (by refine ⟨Or.inr rfl, Or.inr rfl, Or.inr rfl, Or.inr rfl, trivial⟩) ?_
                exact ih (x3 + (8 : Int32)) _ _ _ hs
              · rw [if_neg h40] at hs
                refine Rc.goL mt_1400 0 (f2 := (if r33 = r37 then 1428 else 308, [.retAddr 1, .ref 0, .ref 280, .int x3], [], gm M38)) (b := true) rfl rfl ?_
                rw [if_neg h40]
                refine Rc.goL mt_1400 0 (f2 := (309, [.retAddr 1, .ref 0, .ref 280, .int x3], [.int (0 : Int32)], gm M38)) (b := true) rfl rfl ?_
                obtain ⟨e1, e2⟩ := some_p hs; subst e1; subst e2
                exact Rc.ret (v := some (.int (0 : Int32))) rfl rfl
            · rw [if_neg h41] at hs
              by_cases h51 : ((M.1 9999 (Int32.toNatClampNeg x3)) &&& (63 : Int32)) = (4 : Int32)
              · rw [if_pos h51] at hs
                rw [show swl [(0, 188), (1, 211), (2, 234), (3, 277), (4, 310), (5, 333), (6, 396), (7, 419), (8, 462), (9, 495), (10, 528), (11, 562), (12, 649), (13, 703), (14, 773), (15, 806), (16, 829), (17, 882), (18, 925), (19, 1001), (20, 1024), (21, 1048), (22, 1102), (23, 1125), (24, 1158), (25, 1181), (26, 1224), (27, 1248), (28, 1261), (29, 1274), (30, 1297), (31, 1346), (32, 1359), (33, 1372), (34, 1405)] 1428 ((M.1 9999 (Int32.toNatClampNeg x3)) &&& (63 : Int32)) = 310 by first | (simp only [swl, if_pos h51]; done) | (rw [h51]; decide)]
                obtain ⟨hb42, hs⟩ := ck_some hs
                refine Rc.goL mt_1400 5 (f2 := (316, [.retAddr 1, .ref 0, .ref 280, .int x3], [.int (M.1 9999 (Int32.toNatClampNeg (x3 + (1 : Int32)))), .ref 0], gm M)) (b := (ib (Int32.toNatClampNeg (M.1 9998 0)) (x3 + (1 : Int32)) && true)) rfl hb42 ?_
                obtain ⟨r43, M44, he45, hs⟩ := ob_some hs
                refine Rc.callV (i := 32) (mid' := 1105) (av := [.int (M.1 9999 (Int32.toNatClampNeg (x3 + (1 : Int32))))]) (rest := []) (v := some (.int r43)) (M1 := gm M44) (a := 0) rfl rfl rfl cw_1105 rfl (Nat.le_of_ble_eq_true rfl) rfl (Nat.le_of_ble_eq_true rfl) (qfr_back_ok _ (by omega) he45) ?_
                obtain ⟨hb46, hs⟩ := ck_some hs
                refine Rc.goL mt_1400 5 (f2 := (325, [.retAddr 1, .ref 0, .ref 280, .int x3], [.int (M44.1 9999 (Int32.toNatClampNeg (x3 + (1 : Int32)))), .ref 280, .int r43], gm M44)) (b := (ib (Int32.toNatClampNeg (M44.1 9998 0)) (x3 + (1 : Int32)) && true)) rfl hb46 ?_
                obtain ⟨r47, M48, he49, hs⟩ := ob_some hs
                refine Rc.callV (i := 36) (mid' := 1212) (av := [.int (M44.1 9999 (Int32.toNatClampNeg (x3 + (1 : Int32))))]) (rest := [.int r43]) (v := some (.int r47)) (M1 := gm M48) (a := 280) rfl rfl rfl cw_1212 rfl (Nat.le_of_ble_eq_true rfl) rfl (Nat.le_of_ble_eq_true rfl) (qmd_back_ok _ (by omega) he49) ?_
                by_cases h50 : r43 = r47
                · rw [if_pos h50] at hs
                  refine Rc.goL mt_1400 0 (f2 := (if r43 = r47 then 1428 else 331, [.retAddr 1, .ref 0, .ref 280, .int x3], [], gm M48)) (b := true) rfl rfl ?_
                  rw [if_pos h50]
                  refine Rc.goL mt_1400 1 (f2 := (18, [.retAddr 1, .ref 0, .ref 280, .int (x3 + (8 : Int32))], [], gm M48)) (b := true) rfl rfl ?_
                  refine Rc.less (ls2 := [.retAddr 1, .ref 0, .ref 280, .int (x3 + (8 : Int32))]) (by refine ⟨Or.inr rfl, Or.inr rfl, Or.inr rfl, Or.inr rfl, trivial⟩) ?_
                  exact ih (x3 + (8 : Int32)) _ _ _ hs
                · rw [if_neg h50] at hs
                  refine Rc.goL mt_1400 0 (f2 := (if r43 = r47 then 1428 else 331, [.retAddr 1, .ref 0, .ref 280, .int x3], [], gm M48)) (b := true) rfl rfl ?_
                  rw [if_neg h50]
                  refine Rc.goL mt_1400 0 (f2 := (332, [.retAddr 1, .ref 0, .ref 280, .int x3], [.int (0 : Int32)], gm M48)) (b := true) rfl rfl ?_
                  obtain ⟨e1, e2⟩ := some_p hs; subst e1; subst e2
                  exact Rc.ret (v := some (.int (0 : Int32))) rfl rfl
              · rw [if_neg h51] at hs
                by_cases h61 : ((M.1 9999 (Int32.toNatClampNeg x3)) &&& (63 : Int32)) = (5 : Int32)
                · rw [if_pos h61] at hs
                  rw [show swl [(0, 188), (1, 211), (2, 234), (3, 277), (4, 310), (5, 333), (6, 396), (7, 419), (8, 462), (9, 495), (10, 528), (11, 562), (12, 649), (13, 703), (14, 773), (15, 806), (16, 829), (17, 882), (18, 925), (19, 1001), (20, 1024), (21, 1048), (22, 1102), (23, 1125), (24, 1158), (25, 1181), (26, 1224), (27, 1248), (28, 1261), (29, 1274), (30, 1297), (31, 1346), (32, 1359), (33, 1372), (34, 1405)] 1428 ((M.1 9999 (Int32.toNatClampNeg x3)) &&& (63 : Int32)) = 333 by first | (simp only [swl, if_pos h61]; done) | (rw [h61]; decide)]
                  obtain ⟨hb52, hs⟩ := ck_some hs
                  obtain ⟨hb52_0, hb52⟩ := and_t hb52
                  obtain ⟨hb52_1, hb52⟩ := and_t hb52
                  obtain ⟨hb52_2, hb52⟩ := and_t hb52
                  obtain ⟨hb52_3, hb52⟩ := and_t hb52
                  obtain ⟨hb52_4, hb52⟩ := and_t hb52
                  refine Rc.goL mt_1400 6 (f2 := (340, [.retAddr 1, .ref 0, .ref 280, .int x3], [.retAddr 1, .int (M.1 9999 (Int32.toNatClampNeg (x3 + (1 : Int32)))), .ref 0], gm M)) (b := (ib (Int32.toNatClampNeg (M.1 9998 0)) (x3 + (1 : Int32)) && true)) rfl (and_i hb52_0 rfl) ?_
                  refine Rc.goL mt_1400 6 (f2 := (347, [.retAddr 1, .ref 0, .ref 280, .int x3], [.int (3 : Int32), .int x3, .retAddr 1, .int (M.1 9999 (Int32.toNatClampNeg (x3 + (2 : Int32)))), .int (M.1 9999 (Int32.toNatClampNeg (x3 + (1 : Int32)))), .ref 0], gm M)) (b := (ib (Int32.toNatClampNeg (M.1 9998 0)) (x3 + (2 : Int32)) && true)) rfl (and_i hb52_1 rfl) ?_
                  refine Rc.goL mt_1400 6 (f2 := (354, [.retAddr 1, .ref 0, .ref 280, .int x3], [.int (M.1 9999 (Int32.toNatClampNeg (x3 + (4 : Int32)))), .int (M.1 9999 (Int32.toNatClampNeg (x3 + (3 : Int32)))), .int (M.1 9999 (Int32.toNatClampNeg (x3 + (2 : Int32)))), .int (M.1 9999 (Int32.toNatClampNeg (x3 + (1 : Int32)))), .ref 0], gm M)) (b := (ib (Int32.toNatClampNeg (M.1 9998 0)) (x3 + (3 : Int32)) && (ib (Int32.toNatClampNeg (M.1 9998 0)) (x3 + (4 : Int32)) && true))) rfl (and_i hb52_2 (and_i hb52_3 rfl)) ?_
                  refine Rc.goL mt_1400 4 (f2 := (359, [.retAddr 1, .ref 0, .ref 280, .int x3], [.int (M.1 9999 (Int32.toNatClampNeg (x3 + (5 : Int32)))), .int (M.1 9999 (Int32.toNatClampNeg (x3 + (4 : Int32)))), .int (M.1 9999 (Int32.toNatClampNeg (x3 + (3 : Int32)))), .int (M.1 9999 (Int32.toNatClampNeg (x3 + (2 : Int32)))), .int (M.1 9999 (Int32.toNatClampNeg (x3 + (1 : Int32)))), .ref 0], gm M)) (b := (ib (Int32.toNatClampNeg (M.1 9998 0)) (x3 + (5 : Int32)) && true)) rfl (and_i hb52_4 rfl) ?_
                  obtain ⟨r53, M54, he55, hs⟩ := ob_some hs
                  refine Rc.callV (i := 37) (mid' := 1106) (av := [.int (M.1 9999 (Int32.toNatClampNeg (x3 + (1 : Int32)))), .int (M.1 9999 (Int32.toNatClampNeg (x3 + (2 : Int32)))), .int (M.1 9999 (Int32.toNatClampNeg (x3 + (3 : Int32)))), .int (M.1 9999 (Int32.toNatClampNeg (x3 + (4 : Int32)))), .int (M.1 9999 (Int32.toNatClampNeg (x3 + (5 : Int32))))]) (rest := []) (v := some (.int r53)) (M1 := gm M54) (a := 0) rfl rfl rfl cw_1106 rfl (Nat.le_of_ble_eq_true rfl) rfl (Nat.le_of_ble_eq_true rfl) (qfr_feed_ok _ (by omega) he55) ?_
                  obtain ⟨hb56, hs⟩ := ck_some hs
                  obtain ⟨hb56_0, hb56⟩ := and_t hb56
                  obtain ⟨hb56_1, hb56⟩ := and_t hb56
                  obtain ⟨hb56_2, hb56⟩ := and_t hb56
                  obtain ⟨hb56_3, hb56⟩ := and_t hb56
                  obtain ⟨hb56_4, hb56⟩ := and_t hb56
                  refine Rc.goL mt_1400 6 (f2 := (369, [.retAddr 1, .ref 0, .ref 280, .int x3], [.retAddr 1, .int (M54.1 9999 (Int32.toNatClampNeg (x3 + (1 : Int32)))), .ref 280, .int r53], gm M54)) (b := (ib (Int32.toNatClampNeg (M54.1 9998 0)) (x3 + (1 : Int32)) && true)) rfl (and_i hb56_0 rfl) ?_
                  refine Rc.goL mt_1400 6 (f2 := (376, [.retAddr 1, .ref 0, .ref 280, .int x3], [.int (3 : Int32), .int x3, .retAddr 1, .int (M54.1 9999 (Int32.toNatClampNeg (x3 + (2 : Int32)))), .int (M54.1 9999 (Int32.toNatClampNeg (x3 + (1 : Int32)))), .ref 280, .int r53], gm M54)) (b := (ib (Int32.toNatClampNeg (M54.1 9998 0)) (x3 + (2 : Int32)) && true)) rfl (and_i hb56_1 rfl) ?_
                  refine Rc.goL mt_1400 6 (f2 := (383, [.retAddr 1, .ref 0, .ref 280, .int x3], [.int (M54.1 9999 (Int32.toNatClampNeg (x3 + (4 : Int32)))), .int (M54.1 9999 (Int32.toNatClampNeg (x3 + (3 : Int32)))), .int (M54.1 9999 (Int32.toNatClampNeg (x3 + (2 : Int32)))), .int (M54.1 9999 (Int32.toNatClampNeg (x3 + (1 : Int32)))), .ref 280, .int r53], gm M54)) (b := (ib (Int32.toNatClampNeg (M54.1 9998 0)) (x3 + (3 : Int32)) && (ib (Int32.toNatClampNeg (M54.1 9998 0)) (x3 + (4 : Int32)) && true))) rfl (and_i hb56_2 (and_i hb56_3 rfl)) ?_
                  refine Rc.goL mt_1400 4 (f2 := (388, [.retAddr 1, .ref 0, .ref 280, .int x3], [.int (M54.1 9999 (Int32.toNatClampNeg (x3 + (5 : Int32)))), .int (M54.1 9999 (Int32.toNatClampNeg (x3 + (4 : Int32)))), .int (M54.1 9999 (Int32.toNatClampNeg (x3 + (3 : Int32)))), .int (M54.1 9999 (Int32.toNatClampNeg (x3 + (2 : Int32)))), .int (M54.1 9999 (Int32.toNatClampNeg (x3 + (1 : Int32)))), .ref 280, .int r53], gm M54)) (b := (ib (Int32.toNatClampNeg (M54.1 9998 0)) (x3 + (5 : Int32)) && true)) rfl (and_i hb56_4 rfl) ?_
                  obtain ⟨r57, M58, he59, hs⟩ := ob_some hs
                  refine Rc.callV (i := 41) (mid' := 1214) (av := [.int (M54.1 9999 (Int32.toNatClampNeg (x3 + (1 : Int32)))), .int (M54.1 9999 (Int32.toNatClampNeg (x3 + (2 : Int32)))), .int (M54.1 9999 (Int32.toNatClampNeg (x3 + (3 : Int32)))), .int (M54.1 9999 (Int32.toNatClampNeg (x3 + (4 : Int32)))), .int (M54.1 9999 (Int32.toNatClampNeg (x3 + (5 : Int32))))]) (rest := [.int r53]) (v := some (.int r57)) (M1 := gm M58) (a := 280) rfl rfl rfl cw_1214 rfl (Nat.le_of_ble_eq_true rfl) rfl (Nat.le_of_ble_eq_true rfl) (qmd_feed_ok _ (by omega) he59) ?_
                  by_cases h60 : r53 = r57
                  · rw [if_pos h60] at hs
                    refine Rc.goL mt_1400 0 (f2 := (if r53 = r57 then 1428 else 394, [.retAddr 1, .ref 0, .ref 280, .int x3], [], gm M58)) (b := true) rfl rfl ?_
                    rw [if_pos h60]
                    refine Rc.goL mt_1400 1 (f2 := (18, [.retAddr 1, .ref 0, .ref 280, .int (x3 + (8 : Int32))], [], gm M58)) (b := true) rfl rfl ?_
                    refine Rc.less (ls2 := [.retAddr 1, .ref 0, .ref 280, .int (x3 + (8 : Int32))]) (by refine ⟨Or.inr rfl, Or.inr rfl, Or.inr rfl, Or.inr rfl, trivial⟩) ?_
                    exact ih (x3 + (8 : Int32)) _ _ _ hs
                  · rw [if_neg h60] at hs
                    refine Rc.goL mt_1400 0 (f2 := (if r53 = r57 then 1428 else 394, [.retAddr 1, .ref 0, .ref 280, .int x3], [], gm M58)) (b := true) rfl rfl ?_
                    rw [if_neg h60]
                    refine Rc.goL mt_1400 0 (f2 := (395, [.retAddr 1, .ref 0, .ref 280, .int x3], [.int (0 : Int32)], gm M58)) (b := true) rfl rfl ?_
                    obtain ⟨e1, e2⟩ := some_p hs; subst e1; subst e2
                    exact Rc.ret (v := some (.int (0 : Int32))) rfl rfl
                · rw [if_neg h61] at hs
                  by_cases h71 : ((M.1 9999 (Int32.toNatClampNeg x3)) &&& (63 : Int32)) = (6 : Int32)
                  · rw [if_pos h71] at hs
                    rw [show swl [(0, 188), (1, 211), (2, 234), (3, 277), (4, 310), (5, 333), (6, 396), (7, 419), (8, 462), (9, 495), (10, 528), (11, 562), (12, 649), (13, 703), (14, 773), (15, 806), (16, 829), (17, 882), (18, 925), (19, 1001), (20, 1024), (21, 1048), (22, 1102), (23, 1125), (24, 1158), (25, 1181), (26, 1224), (27, 1248), (28, 1261), (29, 1274), (30, 1297), (31, 1346), (32, 1359), (33, 1372), (34, 1405)] 1428 ((M.1 9999 (Int32.toNatClampNeg x3)) &&& (63 : Int32)) = 396 by first | (simp only [swl, if_pos h71]; done) | (rw [h71]; decide)]
                    obtain ⟨hb62, hs⟩ := ck_some hs
                    refine Rc.goL mt_1400 5 (f2 := (402, [.retAddr 1, .ref 0, .ref 280, .int x3], [.int (M.1 9999 (Int32.toNatClampNeg (x3 + (1 : Int32)))), .ref 0], gm M)) (b := (ib (Int32.toNatClampNeg (M.1 9998 0)) (x3 + (1 : Int32)) && true)) rfl hb62 ?_
                    obtain ⟨r63, M64, he65, hs⟩ := ob_some hs
                    refine Rc.callV (i := 42) (mid' := 1107) (av := [.int (M.1 9999 (Int32.toNatClampNeg (x3 + (1 : Int32))))]) (rest := []) (v := some (.int r63)) (M1 := gm M64) (a := 0) rfl rfl rfl cw_1107 rfl (Nat.le_of_ble_eq_true rfl) rfl (Nat.le_of_ble_eq_true rfl) (qfr_list_ok _ (by omega) he65) ?_
                    obtain ⟨hb66, hs⟩ := ck_some hs
                    refine Rc.goL mt_1400 5 (f2 := (411, [.retAddr 1, .ref 0, .ref 280, .int x3], [.int (M64.1 9999 (Int32.toNatClampNeg (x3 + (1 : Int32)))), .ref 280, .int r63], gm M64)) (b := (ib (Int32.toNatClampNeg (M64.1 9998 0)) (x3 + (1 : Int32)) && true)) rfl hb66 ?_
                    obtain ⟨r67, M68, he69, hs⟩ := ob_some hs
                    refine Rc.callV (i := 45) (mid' := 1238) (av := [.int (M64.1 9999 (Int32.toNatClampNeg (x3 + (1 : Int32))))]) (rest := [.int r63]) (v := some (.int r67)) (M1 := gm M68) (a := 280) rfl rfl rfl cw_1238 rfl (Nat.le_of_ble_eq_true rfl) rfl (Nat.le_of_ble_eq_true rfl) (qmd_list_ok _ (by omega) he69) ?_
                    by_cases h70 : r63 = r67
                    · rw [if_pos h70] at hs
                      refine Rc.goL mt_1400 0 (f2 := (if r63 = r67 then 1428 else 417, [.retAddr 1, .ref 0, .ref 280, .int x3], [], gm M68)) (b := true) rfl rfl ?_
                      rw [if_pos h70]
                      refine Rc.goL mt_1400 1 (f2 := (18, [.retAddr 1, .ref 0, .ref 280, .int (x3 + (8 : Int32))], [], gm M68)) (b := true) rfl rfl ?_
                      refine Rc.less (ls2 := [.retAddr 1, .ref 0, .ref 280, .int (x3 + (8 : Int32))]) (by refine ⟨Or.inr rfl, Or.inr rfl, Or.inr rfl, Or.inr rfl, trivial⟩) ?_
                      exact ih (x3 + (8 : Int32)) _ _ _ hs
                    · rw [if_neg h70] at hs
                      refine Rc.goL mt_1400 0 (f2 := (if r63 = r67 then 1428 else 417, [.retAddr 1, .ref 0, .ref 280, .int x3], [], gm M68)) (b := true) rfl rfl ?_
                      rw [if_neg h70]
                      refine Rc.goL mt_1400 0 (f2 := (418, [.retAddr 1, .ref 0, .ref 280, .int x3], [.int (0 : Int32)], gm M68)) (b := true) rfl rfl ?_
                      obtain ⟨e1, e2⟩ := some_p hs; subst e1; subst e2
                      exact Rc.ret (v := some (.int (0 : Int32))) rfl rfl
                  · rw [if_neg h71] at hs
                    by_cases h81 : ((M.1 9999 (Int32.toNatClampNeg x3)) &&& (63 : Int32)) = (7 : Int32)
                    · rw [if_pos h81] at hs
                      rw [show swl [(0, 188), (1, 211), (2, 234), (3, 277), (4, 310), (5, 333), (6, 396), (7, 419), (8, 462), (9, 495), (10, 528), (11, 562), (12, 649), (13, 703), (14, 773), (15, 806), (16, 829), (17, 882), (18, 925), (19, 1001), (20, 1024), (21, 1048), (22, 1102), (23, 1125), (24, 1158), (25, 1181), (26, 1224), (27, 1248), (28, 1261), (29, 1274), (30, 1297), (31, 1346), (32, 1359), (33, 1372), (34, 1405)] 1428 ((M.1 9999 (Int32.toNatClampNeg x3)) &&& (63 : Int32)) = 419 by first | (simp only [swl, if_pos h81]; done) | (rw [h81]; decide)]
                      obtain ⟨hb72, hs⟩ := ck_some hs
                      obtain ⟨hb72_0, hb72⟩ := and_t hb72
                      obtain ⟨hb72_1, hb72⟩ := and_t hb72
                      obtain ⟨hb72_2, hb72⟩ := and_t hb72
                      refine Rc.goL mt_1400 6 (f2 := (426, [.retAddr 1, .ref 0, .ref 280, .int x3], [.retAddr 1, .int (M.1 9999 (Int32.toNatClampNeg (x3 + (1 : Int32)))), .ref 0], gm M)) (b := (ib (Int32.toNatClampNeg (M.1 9998 0)) (x3 + (1 : Int32)) && true)) rfl (and_i hb72_0 rfl) ?_
                      refine Rc.goL mt_1400 6 (f2 := (433, [.retAddr 1, .ref 0, .ref 280, .int x3], [.int (3 : Int32), .int x3, .retAddr 1, .int (M.1 9999 (Int32.toNatClampNeg (x3 + (2 : Int32)))), .int (M.1 9999 (Int32.toNatClampNeg (x3 + (1 : Int32)))), .ref 0], gm M)) (b := (ib (Int32.toNatClampNeg (M.1 9998 0)) (x3 + (2 : Int32)) && true)) rfl (and_i hb72_1 rfl) ?_
                      refine Rc.goL mt_1400 1 (f2 := (435, [.retAddr 1, .ref 0, .ref 280, .int x3], [.int (M.1 9999 (Int32.toNatClampNeg (x3 + (3 : Int32)))), .int (M.1 9999 (Int32.toNatClampNeg (x3 + (2 : Int32)))), .int (M.1 9999 (Int32.toNatClampNeg (x3 + (1 : Int32)))), .ref 0], gm M)) (b := (ib (Int32.toNatClampNeg (M.1 9998 0)) (x3 + (3 : Int32)) && true)) rfl (and_i hb72_2 rfl) ?_
                      obtain ⟨r73, M74, he75, hs⟩ := ob_some hs
                      refine Rc.callV (i := 46) (mid' := 1108) (av := [.int (M.1 9999 (Int32.toNatClampNeg (x3 + (1 : Int32)))), .int (M.1 9999 (Int32.toNatClampNeg (x3 + (2 : Int32)))), .int (M.1 9999 (Int32.toNatClampNeg (x3 + (3 : Int32))))]) (rest := []) (v := some (.int r73)) (M1 := gm M74) (a := 0) rfl rfl rfl cw_1108 rfl (Nat.le_of_ble_eq_true rfl) rfl (Nat.le_of_ble_eq_true rfl) (qfr_act_ok _ (by omega) he75) ?_
                      obtain ⟨hb76, hs⟩ := ck_some hs
                      obtain ⟨hb76_0, hb76⟩ := and_t hb76
                      obtain ⟨hb76_1, hb76⟩ := and_t hb76
                      obtain ⟨hb76_2, hb76⟩ := and_t hb76
                      refine Rc.goL mt_1400 6 (f2 := (445, [.retAddr 1, .ref 0, .ref 280, .int x3], [.retAddr 1, .int (M74.1 9999 (Int32.toNatClampNeg (x3 + (1 : Int32)))), .ref 280, .int r73], gm M74)) (b := (ib (Int32.toNatClampNeg (M74.1 9998 0)) (x3 + (1 : Int32)) && true)) rfl (and_i hb76_0 rfl) ?_
                      refine Rc.goL mt_1400 6 (f2 := (452, [.retAddr 1, .ref 0, .ref 280, .int x3], [.int (3 : Int32), .int x3, .retAddr 1, .int (M74.1 9999 (Int32.toNatClampNeg (x3 + (2 : Int32)))), .int (M74.1 9999 (Int32.toNatClampNeg (x3 + (1 : Int32)))), .ref 280, .int r73], gm M74)) (b := (ib (Int32.toNatClampNeg (M74.1 9998 0)) (x3 + (2 : Int32)) && true)) rfl (and_i hb76_1 rfl) ?_
                      refine Rc.goL mt_1400 1 (f2 := (454, [.retAddr 1, .ref 0, .ref 280, .int x3], [.int (M74.1 9999 (Int32.toNatClampNeg (x3 + (3 : Int32)))), .int (M74.1 9999 (Int32.toNatClampNeg (x3 + (2 : Int32)))), .int (M74.1 9999 (Int32.toNatClampNeg (x3 + (1 : Int32)))), .ref 280, .int r73], gm M74)) (b := (ib (Int32.toNatClampNeg (M74.1 9998 0)) (x3 + (3 : Int32)) && true)) rfl (and_i hb76_2 rfl) ?_
                      obtain ⟨r77, M78, he79, hs⟩ := ob_some hs
                      refine Rc.callV (i := 49) (mid' := 1239) (av := [.int (M74.1 9999 (Int32.toNatClampNeg (x3 + (1 : Int32)))), .int (M74.1 9999 (Int32.toNatClampNeg (x3 + (2 : Int32)))), .int (M74.1 9999 (Int32.toNatClampNeg (x3 + (3 : Int32))))]) (rest := [.int r73]) (v := some (.int r77)) (M1 := gm M78) (a := 280) rfl rfl rfl cw_1239 rfl (Nat.le_of_ble_eq_true rfl) rfl (Nat.le_of_ble_eq_true rfl) (qmd_act_ok _ (by omega) he79) ?_
                      by_cases h80 : r73 = r77
                      · rw [if_pos h80] at hs
                        refine Rc.goL mt_1400 0 (f2 := (if r73 = r77 then 1428 else 460, [.retAddr 1, .ref 0, .ref 280, .int x3], [], gm M78)) (b := true) rfl rfl ?_
                        rw [if_pos h80]
                        refine Rc.goL mt_1400 1 (f2 := (18, [.retAddr 1, .ref 0, .ref 280, .int (x3 + (8 : Int32))], [], gm M78)) (b := true) rfl rfl ?_
                        refine Rc.less (ls2 := [.retAddr 1, .ref 0, .ref 280, .int (x3 + (8 : Int32))]) (by refine ⟨Or.inr rfl, Or.inr rfl, Or.inr rfl, Or.inr rfl, trivial⟩) ?_
                        exact ih (x3 + (8 : Int32)) _ _ _ hs
                      · rw [if_neg h80] at hs
                        refine Rc.goL mt_1400 0 (f2 := (if r73 = r77 then 1428 else 460, [.retAddr 1, .ref 0, .ref 280, .int x3], [], gm M78)) (b := true) rfl rfl ?_
                        rw [if_neg h80]
                        refine Rc.goL mt_1400 0 (f2 := (461, [.retAddr 1, .ref 0, .ref 280, .int x3], [.int (0 : Int32)], gm M78)) (b := true) rfl rfl ?_
                        obtain ⟨e1, e2⟩ := some_p hs; subst e1; subst e2
                        exact Rc.ret (v := some (.int (0 : Int32))) rfl rfl
                    · rw [if_neg h81] at hs
                      by_cases h91 : ((M.1 9999 (Int32.toNatClampNeg x3)) &&& (63 : Int32)) = (8 : Int32)
                      · rw [if_pos h91] at hs
                        rw [show swl [(0, 188), (1, 211), (2, 234), (3, 277), (4, 310), (5, 333), (6, 396), (7, 419), (8, 462), (9, 495), (10, 528), (11, 562), (12, 649), (13, 703), (14, 773), (15, 806), (16, 829), (17, 882), (18, 925), (19, 1001), (20, 1024), (21, 1048), (22, 1102), (23, 1125), (24, 1158), (25, 1181), (26, 1224), (27, 1248), (28, 1261), (29, 1274), (30, 1297), (31, 1346), (32, 1359), (33, 1372), (34, 1405)] 1428 ((M.1 9999 (Int32.toNatClampNeg x3)) &&& (63 : Int32)) = 462 by first | (simp only [swl, if_pos h91]; done) | (rw [h91]; decide)]
                        obtain ⟨hb82, hs⟩ := ck_some hs
                        obtain ⟨hb82_0, hb82⟩ := and_t hb82
                        obtain ⟨hb82_1, hb82⟩ := and_t hb82
                        refine Rc.goL mt_1400 6 (f2 := (469, [.retAddr 1, .ref 0, .ref 280, .int x3], [.retAddr 1, .int (M.1 9999 (Int32.toNatClampNeg (x3 + (1 : Int32)))), .ref 0], gm M)) (b := (ib (Int32.toNatClampNeg (M.1 9998 0)) (x3 + (1 : Int32)) && true)) rfl (and_i hb82_0 rfl) ?_
                        refine Rc.goL mt_1400 3 (f2 := (473, [.retAddr 1, .ref 0, .ref 280, .int x3], [.int (M.1 9999 (Int32.toNatClampNeg (x3 + (2 : Int32)))), .int (M.1 9999 (Int32.toNatClampNeg (x3 + (1 : Int32)))), .ref 0], gm M)) (b := (ib (Int32.toNatClampNeg (M.1 9998 0)) (x3 + (2 : Int32)) && true)) rfl (and_i hb82_1 rfl) ?_
                        obtain ⟨r83, M84, he85, hs⟩ := ob_some hs
                        refine Rc.callV (i := 50) (mid' := 1109) (av := [.int (M.1 9999 (Int32.toNatClampNeg (x3 + (1 : Int32)))), .int (M.1 9999 (Int32.toNatClampNeg (x3 + (2 : Int32))))]) (rest := []) (v := some (.int r83)) (M1 := gm M84) (a := 0) rfl rfl rfl cw_1109 rfl (Nat.le_of_ble_eq_true rfl) rfl (Nat.le_of_ble_eq_true rfl) (qfr_uses_ok _ (by omega) he85) ?_
                        obtain ⟨hb86, hs⟩ := ck_some hs
                        obtain ⟨hb86_0, hb86⟩ := and_t hb86
                        obtain ⟨hb86_1, hb86⟩ := and_t hb86
                        refine Rc.goL mt_1400 6 (f2 := (483, [.retAddr 1, .ref 0, .ref 280, .int x3], [.retAddr 1, .int (M84.1 9999 (Int32.toNatClampNeg (x3 + (1 : Int32)))), .ref 280, .int r83], gm M84)) (b := (ib (Int32.toNatClampNeg (M84.1 9998 0)) (x3 + (1 : Int32)) && true)) rfl (and_i hb86_0 rfl) ?_
                        refine Rc.goL mt_1400 3 (f2 := (487, [.retAddr 1, .ref 0, .ref 280, .int x3], [.int (M84.1 9999 (Int32.toNatClampNeg (x3 + (2 : Int32)))), .int (M84.1 9999 (Int32.toNatClampNeg (x3 + (1 : Int32)))), .ref 280, .int r83], gm M84)) (b := (ib (Int32.toNatClampNeg (M84.1 9998 0)) (x3 + (2 : Int32)) && true)) rfl (and_i hb86_1 rfl) ?_
                        obtain ⟨r87, M88, he89, hs⟩ := ob_some hs
                        refine Rc.callV (i := 53) (mid' := 1247) (av := [.int (M84.1 9999 (Int32.toNatClampNeg (x3 + (1 : Int32)))), .int (M84.1 9999 (Int32.toNatClampNeg (x3 + (2 : Int32))))]) (rest := [.int r83]) (v := some (.int r87)) (M1 := gm M88) (a := 280) rfl rfl rfl cw_1247 rfl (Nat.le_of_ble_eq_true rfl) rfl (Nat.le_of_ble_eq_true rfl) (qmd_uses_ok _ (by omega) he89) ?_
                        by_cases h90 : r83 = r87
                        · rw [if_pos h90] at hs
                          refine Rc.goL mt_1400 0 (f2 := (if r83 = r87 then 1428 else 493, [.retAddr 1, .ref 0, .ref 280, .int x3], [], gm M88)) (b := true) rfl rfl ?_
                          rw [if_pos h90]
                          refine Rc.goL mt_1400 1 (f2 := (18, [.retAddr 1, .ref 0, .ref 280, .int (x3 + (8 : Int32))], [], gm M88)) (b := true) rfl rfl ?_
                          refine Rc.less (ls2 := [.retAddr 1, .ref 0, .ref 280, .int (x3 + (8 : Int32))]) (by refine ⟨Or.inr rfl, Or.inr rfl, Or.inr rfl, Or.inr rfl, trivial⟩) ?_
                          exact ih (x3 + (8 : Int32)) _ _ _ hs
                        · rw [if_neg h90] at hs
                          refine Rc.goL mt_1400 0 (f2 := (if r83 = r87 then 1428 else 493, [.retAddr 1, .ref 0, .ref 280, .int x3], [], gm M88)) (b := true) rfl rfl ?_
                          rw [if_neg h90]
                          refine Rc.goL mt_1400 0 (f2 := (494, [.retAddr 1, .ref 0, .ref 280, .int x3], [.int (0 : Int32)], gm M88)) (b := true) rfl rfl ?_
                          obtain ⟨e1, e2⟩ := some_p hs; subst e1; subst e2
                          exact Rc.ret (v := some (.int (0 : Int32))) rfl rfl
                      · rw [if_neg h91] at hs
                        by_cases h101 : ((M.1 9999 (Int32.toNatClampNeg x3)) &&& (63 : Int32)) = (9 : Int32)
                        · rw [if_pos h101] at hs
                          rw [show swl [(0, 188), (1, 211), (2, 234), (3, 277), (4, 310), (5, 333), (6, 396), (7, 419), (8, 462), (9, 495), (10, 528), (11, 562), (12, 649), (13, 703), (14, 773), (15, 806), (16, 829), (17, 882), (18, 925), (19, 1001), (20, 1024), (21, 1048), (22, 1102), (23, 1125), (24, 1158), (25, 1181), (26, 1224), (27, 1248), (28, 1261), (29, 1274), (30, 1297), (31, 1346), (32, 1359), (33, 1372), (34, 1405)] 1428 ((M.1 9999 (Int32.toNatClampNeg x3)) &&& (63 : Int32)) = 495 by first | (simp only [swl, if_pos h101]; done) | (rw [h101]; decide)]
                          obtain ⟨hb92, hs⟩ := ck_some hs
                          obtain ⟨hb92_0, hb92⟩ := and_t hb92
                          obtain ⟨hb92_1, hb92⟩ := and_t hb92
                          refine Rc.goL mt_1400 6 (f2 := (502, [.retAddr 1, .ref 0, .ref 280, .int x3], [.retAddr 1, .int (M.1 9999 (Int32.toNatClampNeg (x3 + (1 : Int32)))), .ref 0], gm M)) (b := (ib (Int32.toNatClampNeg (M.1 9998 0)) (x3 + (1 : Int32)) && true)) rfl (and_i hb92_0 rfl) ?_
                          refine Rc.goL mt_1400 3 (f2 := (506, [.retAddr 1, .ref 0, .ref 280, .int x3], [.int (M.1 9999 (Int32.toNatClampNeg (x3 + (2 : Int32)))), .int (M.1 9999 (Int32.toNatClampNeg (x3 + (1 : Int32)))), .ref 0], gm M)) (b := (ib (Int32.toNatClampNeg (M.1 9998 0)) (x3 + (2 : Int32)) && true)) rfl (and_i hb92_1 rfl) ?_
                          obtain ⟨r93, M94, he95, hs⟩ := ob_some hs
                          refine Rc.callV (i := 54) (mid' := 1110) (av := [.int (M.1 9999 (Int32.toNatClampNeg (x3 + (1 : Int32)))), .int (M.1 9999 (Int32.toNatClampNeg (x3 + (2 : Int32))))]) (rest := []) (v := some (.int r93)) (M1 := gm M94) (a := 0) rfl rfl rfl cw_1110 rfl (Nat.le_of_ble_eq_true rfl) rfl (Nat.le_of_ble_eq_true rfl) (qfr_listOf_ok _ (by omega) he95) ?_
                          obtain ⟨hb96, hs⟩ := ck_some hs
                          obtain ⟨hb96_0, hb96⟩ := and_t hb96
                          obtain ⟨hb96_1, hb96⟩ := and_t hb96
                          refine Rc.goL mt_1400 6 (f2 := (516, [.retAddr 1, .ref 0, .ref 280, .int x3], [.retAddr 1, .int (M94.1 9999 (Int32.toNatClampNeg (x3 + (1 : Int32)))), .ref 280, .int r93], gm M94)) (b := (ib (Int32.toNatClampNeg (M94.1 9998 0)) (x3 + (1 : Int32)) && true)) rfl (and_i hb96_0 rfl) ?_
                          refine Rc.goL mt_1400 3 (f2 := (520, [.retAddr 1, .ref 0, .ref 280, .int x3], [.int (M94.1 9999 (Int32.toNatClampNeg (x3 + (2 : Int32)))), .int (M94.1 9999 (Int32.toNatClampNeg (x3 + (1 : Int32)))), .ref 280, .int r93], gm M94)) (b := (ib (Int32.toNatClampNeg (M94.1 9998 0)) (x3 + (2 : Int32)) && true)) rfl (and_i hb96_1 rfl) ?_
                          obtain ⟨r97, M98, he99, hs⟩ := ob_some hs
                          refine Rc.callV (i := 58) (mid' := 1248) (av := [.int (M94.1 9999 (Int32.toNatClampNeg (x3 + (1 : Int32)))), .int (M94.1 9999 (Int32.toNatClampNeg (x3 + (2 : Int32))))]) (rest := [.int r93]) (v := some (.int r97)) (M1 := gm M98) (a := 280) rfl rfl rfl cw_1248 rfl (Nat.le_of_ble_eq_true rfl) rfl (Nat.le_of_ble_eq_true rfl) (qmd_listOf_ok _ (by omega) he99) ?_
                          by_cases h100 : r93 = r97
                          · rw [if_pos h100] at hs
                            refine Rc.goL mt_1400 0 (f2 := (if r93 = r97 then 1428 else 526, [.retAddr 1, .ref 0, .ref 280, .int x3], [], gm M98)) (b := true) rfl rfl ?_
                            rw [if_pos h100]
                            refine Rc.goL mt_1400 1 (f2 := (18, [.retAddr 1, .ref 0, .ref 280, .int (x3 + (8 : Int32))], [], gm M98)) (b := true) rfl rfl ?_
                            refine Rc.less (ls2 := [.retAddr 1, .ref 0, .ref 280, .int (x3 + (8 : Int32))]) (by refine ⟨Or.inr rfl, Or.inr rfl, Or.inr rfl, Or.inr rfl, trivial⟩) ?_
                            exact ih (x3 + (8 : Int32)) _ _ _ hs
                          · rw [if_neg h100] at hs
                            refine Rc.goL mt_1400 0 (f2 := (if r93 = r97 then 1428 else 526, [.retAddr 1, .ref 0, .ref 280, .int x3], [], gm M98)) (b := true) rfl rfl ?_
                            rw [if_neg h100]
                            refine Rc.goL mt_1400 0 (f2 := (527, [.retAddr 1, .ref 0, .ref 280, .int x3], [.int (0 : Int32)], gm M98)) (b := true) rfl rfl ?_
                            obtain ⟨e1, e2⟩ := some_p hs; subst e1; subst e2
                            exact Rc.ret (v := some (.int (0 : Int32))) rfl rfl
                        · rw [if_neg h101] at hs
                          by_cases h111 : ((M.1 9999 (Int32.toNatClampNeg x3)) &&& (63 : Int32)) = (10 : Int32)
                          · rw [if_pos h111] at hs
                            rw [show swl [(0, 188), (1, 211), (2, 234), (3, 277), (4, 310), (5, 333), (6, 396), (7, 419), (8, 462), (9, 495), (10, 528), (11, 562), (12, 649), (13, 703), (14, 773), (15, 806), (16, 829), (17, 882), (18, 925), (19, 1001), (20, 1024), (21, 1048), (22, 1102), (23, 1125), (24, 1158), (25, 1181), (26, 1224), (27, 1248), (28, 1261), (29, 1274), (30, 1297), (31, 1346), (32, 1359), (33, 1372), (34, 1405)] 1428 ((M.1 9999 (Int32.toNatClampNeg x3)) &&& (63 : Int32)) = 528 by first | (simp only [swl, if_pos h111]; done) | (rw [h111]; decide)]
                            obtain ⟨hb102, hs⟩ := ck_some hs
                            obtain ⟨hb102_0, hb102⟩ := and_t hb102
                            obtain ⟨hb102_1, hb102⟩ := and_t hb102
                            refine Rc.goL mt_1400 6 (f2 := (535, [.retAddr 1, .ref 0, .ref 280, .int x3], [.retAddr 1, .int (M.1 9999 (Int32.toNatClampNeg (x3 + (1 : Int32)))), .ref 0], gm M)) (b := (ib (Int32.toNatClampNeg (M.1 9998 0)) (x3 + (1 : Int32)) && true)) rfl (and_i hb102_0 rfl) ?_
                            refine Rc.goL mt_1400 3 (f2 := (539, [.retAddr 1, .ref 0, .ref 280, .int x3], [.int (M.1 9999 (Int32.toNatClampNeg (x3 + (2 : Int32)))), .int (M.1 9999 (Int32.toNatClampNeg (x3 + (1 : Int32)))), .ref 0], gm M)) (b := (ib (Int32.toNatClampNeg (M.1 9998 0)) (x3 + (2 : Int32)) && true)) rfl (and_i hb102_1 rfl) ?_
                            obtain ⟨r103, M104, he105, hs⟩ := ob_some hs
                            refine Rc.callV (i := 59) (mid' := 1111) (av := [.int (M.1 9999 (Int32.toNatClampNeg (x3 + (1 : Int32)))), .int (M.1 9999 (Int32.toNatClampNeg (x3 + (2 : Int32))))]) (rest := []) (v := some (.long r103)) (M1 := gm M104) (a := 0) rfl rfl rfl cw_1111 rfl (Nat.le_of_ble_eq_true rfl) rfl (Nat.le_of_ble_eq_true rfl) (qfr_worth_ok _ (by omega) he105) ?_
                            obtain ⟨hb106, hs⟩ := ck_some hs
                            obtain ⟨hb106_0, hb106⟩ := and_t hb106
                            obtain ⟨hb106_1, hb106⟩ := and_t hb106
                            refine Rc.goL mt_1400 6 (f2 := (549, [.retAddr 1, .ref 0, .ref 280, .int x3], [.retAddr 1, .int (M104.1 9999 (Int32.toNatClampNeg (x3 + (1 : Int32)))), .ref 280, .long r103], gm M104)) (b := (ib (Int32.toNatClampNeg (M104.1 9998 0)) (x3 + (1 : Int32)) && true)) rfl (and_i hb106_0 rfl) ?_
                            refine Rc.goL mt_1400 3 (f2 := (553, [.retAddr 1, .ref 0, .ref 280, .int x3], [.int (M104.1 9999 (Int32.toNatClampNeg (x3 + (2 : Int32)))), .int (M104.1 9999 (Int32.toNatClampNeg (x3 + (1 : Int32)))), .ref 280, .long r103], gm M104)) (b := (ib (Int32.toNatClampNeg (M104.1 9998 0)) (x3 + (2 : Int32)) && true)) rfl (and_i hb106_1 rfl) ?_
                            obtain ⟨r107, M108, he109, hs⟩ := ob_some hs
                            refine Rc.callV (i := 63) (mid' := 1245) (av := [.int (M104.1 9999 (Int32.toNatClampNeg (x3 + (1 : Int32)))), .int (M104.1 9999 (Int32.toNatClampNeg (x3 + (2 : Int32))))]) (rest := [.long r103]) (v := some (.long r107)) (M1 := gm M108) (a := 280) rfl rfl rfl cw_1245 rfl (Nat.le_of_ble_eq_true rfl) rfl (Nat.le_of_ble_eq_true rfl) (qmd_worth_ok _ (by omega) he109) ?_
                            by_cases h110 : (lg_cmp r103 r107) = 0
                            · rw [if_pos h110] at hs
                              refine Rc.goL mt_1400 1 (f2 := (if (lg_cmp r103 r107) = 0 then 1428 else 560, [.retAddr 1, .ref 0, .ref 280, .int x3], [], gm M108)) (b := true) rfl rfl ?_
                              rw [if_pos h110]
                              refine Rc.goL mt_1400 1 (f2 := (18, [.retAddr 1, .ref 0, .ref 280, .int (x3 + (8 : Int32))], [], gm M108)) (b := true) rfl rfl ?_
                              refine Rc.less (ls2 := [.retAddr 1, .ref 0, .ref 280, .int (x3 + (8 : Int32))]) (by refine ⟨Or.inr rfl, Or.inr rfl, Or.inr rfl, Or.inr rfl, trivial⟩) ?_
                              exact ih (x3 + (8 : Int32)) _ _ _ hs
                            · rw [if_neg h110] at hs
                              refine Rc.goL mt_1400 1 (f2 := (if (lg_cmp r103 r107) = 0 then 1428 else 560, [.retAddr 1, .ref 0, .ref 280, .int x3], [], gm M108)) (b := true) rfl rfl ?_
                              rw [if_neg h110]
                              refine Rc.goL mt_1400 0 (f2 := (561, [.retAddr 1, .ref 0, .ref 280, .int x3], [.int (0 : Int32)], gm M108)) (b := true) rfl rfl ?_
                              obtain ⟨e1, e2⟩ := some_p hs; subst e1; subst e2
                              exact Rc.ret (v := some (.int (0 : Int32))) rfl rfl
                          · rw [if_neg h111] at hs
                            by_cases h121 : ((M.1 9999 (Int32.toNatClampNeg x3)) &&& (63 : Int32)) = (11 : Int32)
                            · rw [if_pos h121] at hs
                              rw [show swl [(0, 188), (1, 211), (2, 234), (3, 277), (4, 310), (5, 333), (6, 396), (7, 419), (8, 462), (9, 495), (10, 528), (11, 562), (12, 649), (13, 703), (14, 773), (15, 806), (16, 829), (17, 882), (18, 925), (19, 1001), (20, 1024), (21, 1048), (22, 1102), (23, 1125), (24, 1158), (25, 1181), (26, 1224), (27, 1248), (28, 1261), (29, 1274), (30, 1297), (31, 1346), (32, 1359), (33, 1372), (34, 1405)] 1428 ((M.1 9999 (Int32.toNatClampNeg x3)) &&& (63 : Int32)) = 562 by first | (simp only [swl, if_pos h121]; done) | (rw [h121]; decide)]
                              obtain ⟨hb112, hs⟩ := ck_some hs
                              obtain ⟨hb112_0, hb112⟩ := and_t hb112
                              obtain ⟨hb112_1, hb112⟩ := and_t hb112
                              obtain ⟨hb112_2, hb112⟩ := and_t hb112
                              obtain ⟨hb112_3, hb112⟩ := and_t hb112
                              obtain ⟨hb112_4, hb112⟩ := and_t hb112
                              obtain ⟨hb112_5, hb112⟩ := and_t hb112
                              obtain ⟨hb112_6, hb112⟩ := and_t hb112
                              refine Rc.goL mt_1400 6 (f2 := (569, [.retAddr 1, .ref 0, .ref 280, .int x3], [.retAddr 1, .int (M.1 9999 (Int32.toNatClampNeg (x3 + (1 : Int32)))), .ref 0], gm M)) (b := (ib (Int32.toNatClampNeg (M.1 9998 0)) (x3 + (1 : Int32)) && true)) rfl (and_i hb112_0 rfl) ?_
                              refine Rc.goL mt_1400 6 (f2 := (576, [.retAddr 1, .ref 0, .ref 280, .int x3], [.int (3 : Int32), .int x3, .retAddr 1, .int (M.1 9999 (Int32.toNatClampNeg (x3 + (2 : Int32)))), .int (M.1 9999 (Int32.toNatClampNeg (x3 + (1 : Int32)))), .ref 0], gm M)) (b := (ib (Int32.toNatClampNeg (M.1 9998 0)) (x3 + (2 : Int32)) && true)) rfl (and_i hb112_1 rfl) ?_
                              refine Rc.goL mt_1400 6 (f2 := (583, [.retAddr 1, .ref 0, .ref 280, .int x3], [.int (M.1 9999 (Int32.toNatClampNeg (x3 + (4 : Int32)))), .int (M.1 9999 (Int32.toNatClampNeg (x3 + (3 : Int32)))), .int (M.1 9999 (Int32.toNatClampNeg (x3 + (2 : Int32)))), .int (M.1 9999 (Int32.toNatClampNeg (x3 + (1 : Int32)))), .ref 0], gm M)) (b := (ib (Int32.toNatClampNeg (M.1 9998 0)) (x3 + (3 : Int32)) && (ib (Int32.toNatClampNeg (M.1 9998 0)) (x3 + (4 : Int32)) && true))) rfl (and_i hb112_2 (and_i hb112_3 rfl)) ?_
                              refine Rc.goL mt_1400 6 (f2 := (590, [.retAddr 1, .ref 0, .ref 280, .int x3], [.int x3, .retAddr 1, .int (M.1 9999 (Int32.toNatClampNeg (x3 + (5 : Int32)))), .int (M.1 9999 (Int32.toNatClampNeg (x3 + (4 : Int32)))), .int (M.1 9999 (Int32.toNatClampNeg (x3 + (3 : Int32)))), .int (M.1 9999 (Int32.toNatClampNeg (x3 + (2 : Int32)))), .int (M.1 9999 (Int32.toNatClampNeg (x3 + (1 : Int32)))), .ref 0], gm M)) (b := (ib (Int32.toNatClampNeg (M.1 9998 0)) (x3 + (5 : Int32)) && true)) rfl (and_i hb112_4 rfl) ?_
                              refine Rc.goL mt_1400 6 (f2 := (599, [.retAddr 1, .ref 0, .ref 280, .int x3], [.int (x3 + (7 : Int32)), .retAddr 1, .int (M.1 9999 (Int32.toNatClampNeg (x3 + (6 : Int32)))), .int (M.1 9999 (Int32.toNatClampNeg (x3 + (5 : Int32)))), .int (M.1 9999 (Int32.toNatClampNeg (x3 + (4 : Int32)))), .int (M.1 9999 (Int32.toNatClampNeg (x3 + (3 : Int32)))), .int (M.1 9999 (Int32.toNatClampNeg (x3 + (2 : Int32)))), .int (M.1 9999 (Int32.toNatClampNeg (x3 + (1 : Int32)))), .ref 0], gm M)) (b := (ib (Int32.toNatClampNeg (M.1 9998 0)) (x3 + (6 : Int32)) && true)) rfl (and_i hb112_5 rfl) ?_
                              refine Rc.goL mt_1400 0 (f2 := (600, [.retAddr 1, .ref 0, .ref 280, .int x3], [.int (M.1 9999 (Int32.toNatClampNeg (x3 + (7 : Int32)))), .int (M.1 9999 (Int32.toNatClampNeg (x3 + (6 : Int32)))), .int (M.1 9999 (Int32.toNatClampNeg (x3 + (5 : Int32)))), .int (M.1 9999 (Int32.toNatClampNeg (x3 + (4 : Int32)))), .int (M.1 9999 (Int32.toNatClampNeg (x3 + (3 : Int32)))), .int (M.1 9999 (Int32.toNatClampNeg (x3 + (2 : Int32)))), .int (M.1 9999 (Int32.toNatClampNeg (x3 + (1 : Int32)))), .ref 0], gm M)) (b := (ib (Int32.toNatClampNeg (M.1 9998 0)) (x3 + (7 : Int32)) && true)) rfl (and_i hb112_6 rfl) ?_
                              obtain ⟨r113, M114, he115, hs⟩ := ob_some hs
                              refine Rc.callV (i := 64) (mid' := 1112) (av := [.int (M.1 9999 (Int32.toNatClampNeg (x3 + (1 : Int32)))), .int (M.1 9999 (Int32.toNatClampNeg (x3 + (2 : Int32)))), .int (M.1 9999 (Int32.toNatClampNeg (x3 + (3 : Int32)))), .int (M.1 9999 (Int32.toNatClampNeg (x3 + (4 : Int32)))), .int (M.1 9999 (Int32.toNatClampNeg (x3 + (5 : Int32)))), .int (M.1 9999 (Int32.toNatClampNeg (x3 + (6 : Int32)))), .int (M.1 9999 (Int32.toNatClampNeg (x3 + (7 : Int32))))]) (rest := []) (v := some (.int r113)) (M1 := gm M114) (a := 0) rfl rfl rfl cw_1112 rfl (Nat.le_of_ble_eq_true rfl) rfl (Nat.le_of_ble_eq_true rfl) (qfr_entry_ok _ (by omega) he115) ?_
                              obtain ⟨hb116, hs⟩ := ck_some hs
                              obtain ⟨hb116_0, hb116⟩ := and_t hb116
                              obtain ⟨hb116_1, hb116⟩ := and_t hb116
                              obtain ⟨hb116_2, hb116⟩ := and_t hb116
                              obtain ⟨hb116_3, hb116⟩ := and_t hb116
                              obtain ⟨hb116_4, hb116⟩ := and_t hb116
                              obtain ⟨hb116_5, hb116⟩ := and_t hb116
                              obtain ⟨hb116_6, hb116⟩ := and_t hb116
                              refine Rc.goL mt_1400 6 (f2 := (610, [.retAddr 1, .ref 0, .ref 280, .int x3], [.retAddr 1, .int (M114.1 9999 (Int32.toNatClampNeg (x3 + (1 : Int32)))), .ref 280, .int r113], gm M114)) (b := (ib (Int32.toNatClampNeg (M114.1 9998 0)) (x3 + (1 : Int32)) && true)) rfl (and_i hb116_0 rfl) ?_
                              refine Rc.goL mt_1400 6 (f2 := (617, [.retAddr 1, .ref 0, .ref 280, .int x3], [.int (3 : Int32), .int x3, .retAddr 1, .int (M114.1 9999 (Int32.toNatClampNeg (x3 + (2 : Int32)))), .int (M114.1 9999 (Int32.toNatClampNeg (x3 + (1 : Int32)))), .ref 280, .int r113], gm M114)) (b := (ib (Int32.toNatClampNeg (M114.1 9998 0)) (x3 + (2 : Int32)) && true)) rfl (and_i hb116_1 rfl) ?_
                              refine Rc.goL mt_1400 6 (f2 := (624, [.retAddr 1, .ref 0, .ref 280, .int x3], [.int (M114.1 9999 (Int32.toNatClampNeg (x3 + (4 : Int32)))), .int (M114.1 9999 (Int32.toNatClampNeg (x3 + (3 : Int32)))), .int (M114.1 9999 (Int32.toNatClampNeg (x3 + (2 : Int32)))), .int (M114.1 9999 (Int32.toNatClampNeg (x3 + (1 : Int32)))), .ref 280, .int r113], gm M114)) (b := (ib (Int32.toNatClampNeg (M114.1 9998 0)) (x3 + (3 : Int32)) && (ib (Int32.toNatClampNeg (M114.1 9998 0)) (x3 + (4 : Int32)) && true))) rfl (and_i hb116_2 (and_i hb116_3 rfl)) ?_
                              refine Rc.goL mt_1400 6 (f2 := (631, [.retAddr 1, .ref 0, .ref 280, .int x3], [.int x3, .retAddr 1, .int (M114.1 9999 (Int32.toNatClampNeg (x3 + (5 : Int32)))), .int (M114.1 9999 (Int32.toNatClampNeg (x3 + (4 : Int32)))), .int (M114.1 9999 (Int32.toNatClampNeg (x3 + (3 : Int32)))), .int (M114.1 9999 (Int32.toNatClampNeg (x3 + (2 : Int32)))), .int (M114.1 9999 (Int32.toNatClampNeg (x3 + (1 : Int32)))), .ref 280, .int r113], gm M114)) (b := (ib (Int32.toNatClampNeg (M114.1 9998 0)) (x3 + (5 : Int32)) && true)) rfl (and_i hb116_4 rfl) ?_
                              refine Rc.goL mt_1400 6 (f2 := (640, [.retAddr 1, .ref 0, .ref 280, .int x3], [.int (x3 + (7 : Int32)), .retAddr 1, .int (M114.1 9999 (Int32.toNatClampNeg (x3 + (6 : Int32)))), .int (M114.1 9999 (Int32.toNatClampNeg (x3 + (5 : Int32)))), .int (M114.1 9999 (Int32.toNatClampNeg (x3 + (4 : Int32)))), .int (M114.1 9999 (Int32.toNatClampNeg (x3 + (3 : Int32)))), .int (M114.1 9999 (Int32.toNatClampNeg (x3 + (2 : Int32)))), .int (M114.1 9999 (Int32.toNatClampNeg (x3 + (1 : Int32)))), .ref 280, .int r113], gm M114)) (b := (ib (Int32.toNatClampNeg (M114.1 9998 0)) (x3 + (6 : Int32)) && true)) rfl (and_i hb116_5 rfl) ?_
                              refine Rc.goL mt_1400 0 (f2 := (641, [.retAddr 1, .ref 0, .ref 280, .int x3], [.int (M114.1 9999 (Int32.toNatClampNeg (x3 + (7 : Int32)))), .int (M114.1 9999 (Int32.toNatClampNeg (x3 + (6 : Int32)))), .int (M114.1 9999 (Int32.toNatClampNeg (x3 + (5 : Int32)))), .int (M114.1 9999 (Int32.toNatClampNeg (x3 + (4 : Int32)))), .int (M114.1 9999 (Int32.toNatClampNeg (x3 + (3 : Int32)))), .int (M114.1 9999 (Int32.toNatClampNeg (x3 + (2 : Int32)))), .int (M114.1 9999 (Int32.toNatClampNeg (x3 + (1 : Int32)))), .ref 280, .int r113], gm M114)) (b := (ib (Int32.toNatClampNeg (M114.1 9998 0)) (x3 + (7 : Int32)) && true)) rfl (and_i hb116_6 rfl) ?_
                              obtain ⟨r117, M118, he119, hs⟩ := ob_some hs
                              refine Rc.callV (i := 68) (mid' := 1249) (av := [.int (M114.1 9999 (Int32.toNatClampNeg (x3 + (1 : Int32)))), .int (M114.1 9999 (Int32.toNatClampNeg (x3 + (2 : Int32)))), .int (M114.1 9999 (Int32.toNatClampNeg (x3 + (3 : Int32)))), .int (M114.1 9999 (Int32.toNatClampNeg (x3 + (4 : Int32)))), .int (M114.1 9999 (Int32.toNatClampNeg (x3 + (5 : Int32)))), .int (M114.1 9999 (Int32.toNatClampNeg (x3 + (6 : Int32)))), .int (M114.1 9999 (Int32.toNatClampNeg (x3 + (7 : Int32))))]) (rest := [.int r113]) (v := some (.int r117)) (M1 := gm M118) (a := 280) rfl rfl rfl cw_1249 rfl (Nat.le_of_ble_eq_true rfl) rfl (Nat.le_of_ble_eq_true rfl) (qmd_entry_ok _ (by omega) he119) ?_
                              by_cases h120 : r113 = r117
                              · rw [if_pos h120] at hs
                                refine Rc.goL mt_1400 0 (f2 := (if r113 = r117 then 1428 else 647, [.retAddr 1, .ref 0, .ref 280, .int x3], [], gm M118)) (b := true) rfl rfl ?_
                                rw [if_pos h120]
                                refine Rc.goL mt_1400 1 (f2 := (18, [.retAddr 1, .ref 0, .ref 280, .int (x3 + (8 : Int32))], [], gm M118)) (b := true) rfl rfl ?_
                                refine Rc.less (ls2 := [.retAddr 1, .ref 0, .ref 280, .int (x3 + (8 : Int32))]) (by refine ⟨Or.inr rfl, Or.inr rfl, Or.inr rfl, Or.inr rfl, trivial⟩) ?_
                                exact ih (x3 + (8 : Int32)) _ _ _ hs
                              · rw [if_neg h120] at hs
                                refine Rc.goL mt_1400 0 (f2 := (if r113 = r117 then 1428 else 647, [.retAddr 1, .ref 0, .ref 280, .int x3], [], gm M118)) (b := true) rfl rfl ?_
                                rw [if_neg h120]
                                refine Rc.goL mt_1400 0 (f2 := (648, [.retAddr 1, .ref 0, .ref 280, .int x3], [.int (0 : Int32)], gm M118)) (b := true) rfl rfl ?_
                                obtain ⟨e1, e2⟩ := some_p hs; subst e1; subst e2
                                exact Rc.ret (v := some (.int (0 : Int32))) rfl rfl
                            · rw [if_neg h121] at hs
                              by_cases h131 : ((M.1 9999 (Int32.toNatClampNeg x3)) &&& (63 : Int32)) = (12 : Int32)
                              · rw [if_pos h131] at hs
                                rw [show swl [(0, 188), (1, 211), (2, 234), (3, 277), (4, 310), (5, 333), (6, 396), (7, 419), (8, 462), (9, 495), (10, 528), (11, 562), (12, 649), (13, 703), (14, 773), (15, 806), (16, 829), (17, 882), (18, 925), (19, 1001), (20, 1024), (21, 1048), (22, 1102), (23, 1125), (24, 1158), (25, 1181), (26, 1224), (27, 1248), (28, 1261), (29, 1274), (30, 1297), (31, 1346), (32, 1359), (33, 1372), (34, 1405)] 1428 ((M.1 9999 (Int32.toNatClampNeg x3)) &&& (63 : Int32)) = 649 by first | (simp only [swl, if_pos h131]; done) | (rw [h131]; decide)]
                                obtain ⟨hb122, hs⟩ := ck_some hs
                                obtain ⟨hb122_0, hb122⟩ := and_t hb122
                                obtain ⟨hb122_1, hb122⟩ := and_t hb122
                                obtain ⟨hb122_2, hb122⟩ := and_t hb122
                                obtain ⟨hb122_3, hb122⟩ := and_t hb122
                                refine Rc.goL mt_1400 6 (f2 := (656, [.retAddr 1, .ref 0, .ref 280, .int x3], [.retAddr 1, .int (M.1 9999 (Int32.toNatClampNeg (x3 + (1 : Int32)))), .ref 0], gm M)) (b := (ib (Int32.toNatClampNeg (M.1 9998 0)) (x3 + (1 : Int32)) && true)) rfl (and_i hb122_0 rfl) ?_
                                refine Rc.goL mt_1400 6 (f2 := (663, [.retAddr 1, .ref 0, .ref 280, .int x3], [.int (3 : Int32), .int x3, .retAddr 1, .int (M.1 9999 (Int32.toNatClampNeg (x3 + (2 : Int32)))), .int (M.1 9999 (Int32.toNatClampNeg (x3 + (1 : Int32)))), .ref 0], gm M)) (b := (ib (Int32.toNatClampNeg (M.1 9998 0)) (x3 + (2 : Int32)) && true)) rfl (and_i hb122_1 rfl) ?_
                                refine Rc.goL mt_1400 6 (f2 := (670, [.retAddr 1, .ref 0, .ref 280, .int x3], [.int (M.1 9999 (Int32.toNatClampNeg (x3 + (4 : Int32)))), .int (M.1 9999 (Int32.toNatClampNeg (x3 + (3 : Int32)))), .int (M.1 9999 (Int32.toNatClampNeg (x3 + (2 : Int32)))), .int (M.1 9999 (Int32.toNatClampNeg (x3 + (1 : Int32)))), .ref 0], gm M)) (b := (ib (Int32.toNatClampNeg (M.1 9998 0)) (x3 + (3 : Int32)) && (ib (Int32.toNatClampNeg (M.1 9998 0)) (x3 + (4 : Int32)) && true))) rfl (and_i hb122_2 (and_i hb122_3 rfl)) ?_
                                obtain ⟨r123, M124, he125, hs⟩ := ob_some hs
                                refine Rc.callV (i := 69) (mid' := 1113) (av := [.int (M.1 9999 (Int32.toNatClampNeg (x3 + (1 : Int32)))), .int (M.1 9999 (Int32.toNatClampNeg (x3 + (2 : Int32)))), .int (M.1 9999 (Int32.toNatClampNeg (x3 + (3 : Int32)))), .int (M.1 9999 (Int32.toNatClampNeg (x3 + (4 : Int32))))]) (rest := []) (v := some (.long r123)) (M1 := gm M124) (a := 0) rfl rfl rfl cw_1113 rfl (Nat.le_of_ble_eq_true rfl) rfl (Nat.le_of_ble_eq_true rfl) (qfr_week_ok _ (by omega) he125) ?_
                                obtain ⟨hb126, hs⟩ := ck_some hs
                                obtain ⟨hb126_0, hb126⟩ := and_t hb126
                                obtain ⟨hb126_1, hb126⟩ := and_t hb126
                                obtain ⟨hb126_2, hb126⟩ := and_t hb126
                                obtain ⟨hb126_3, hb126⟩ := and_t hb126
                                refine Rc.goL mt_1400 6 (f2 := (680, [.retAddr 1, .ref 0, .ref 280, .int x3], [.retAddr 1, .int (M124.1 9999 (Int32.toNatClampNeg (x3 + (1 : Int32)))), .ref 280, .long r123], gm M124)) (b := (ib (Int32.toNatClampNeg (M124.1 9998 0)) (x3 + (1 : Int32)) && true)) rfl (and_i hb126_0 rfl) ?_
                                refine Rc.goL mt_1400 6 (f2 := (687, [.retAddr 1, .ref 0, .ref 280, .int x3], [.int (3 : Int32), .int x3, .retAddr 1, .int (M124.1 9999 (Int32.toNatClampNeg (x3 + (2 : Int32)))), .int (M124.1 9999 (Int32.toNatClampNeg (x3 + (1 : Int32)))), .ref 280, .long r123], gm M124)) (b := (ib (Int32.toNatClampNeg (M124.1 9998 0)) (x3 + (2 : Int32)) && true)) rfl (and_i hb126_1 rfl) ?_
                                refine Rc.goL mt_1400 6 (f2 := (694, [.retAddr 1, .ref 0, .ref 280, .int x3], [.int (M124.1 9999 (Int32.toNatClampNeg (x3 + (4 : Int32)))), .int (M124.1 9999 (Int32.toNatClampNeg (x3 + (3 : Int32)))), .int (M124.1 9999 (Int32.toNatClampNeg (x3 + (2 : Int32)))), .int (M124.1 9999 (Int32.toNatClampNeg (x3 + (1 : Int32)))), .ref 280, .long r123], gm M124)) (b := (ib (Int32.toNatClampNeg (M124.1 9998 0)) (x3 + (3 : Int32)) && (ib (Int32.toNatClampNeg (M124.1 9998 0)) (x3 + (4 : Int32)) && true))) rfl (and_i hb126_2 (and_i hb126_3 rfl)) ?_
                                obtain ⟨r127, M128, he129, hs⟩ := ob_some hs
                                refine Rc.callV (i := 73) (mid' := 1258) (av := [.int (M124.1 9999 (Int32.toNatClampNeg (x3 + (1 : Int32)))), .int (M124.1 9999 (Int32.toNatClampNeg (x3 + (2 : Int32)))), .int (M124.1 9999 (Int32.toNatClampNeg (x3 + (3 : Int32)))), .int (M124.1 9999 (Int32.toNatClampNeg (x3 + (4 : Int32))))]) (rest := [.long r123]) (v := some (.long r127)) (M1 := gm M128) (a := 280) rfl rfl rfl cw_1258 rfl (Nat.le_of_ble_eq_true rfl) rfl (Nat.le_of_ble_eq_true rfl) (qmd_week_ok _ (by omega) he129) ?_
                                by_cases h130 : (lg_cmp r123 r127) = 0
                                · rw [if_pos h130] at hs
                                  refine Rc.goL mt_1400 1 (f2 := (if (lg_cmp r123 r127) = 0 then 1428 else 701, [.retAddr 1, .ref 0, .ref 280, .int x3], [], gm M128)) (b := true) rfl rfl ?_
                                  rw [if_pos h130]
                                  refine Rc.goL mt_1400 1 (f2 := (18, [.retAddr 1, .ref 0, .ref 280, .int (x3 + (8 : Int32))], [], gm M128)) (b := true) rfl rfl ?_
                                  refine Rc.less (ls2 := [.retAddr 1, .ref 0, .ref 280, .int (x3 + (8 : Int32))]) (by refine ⟨Or.inr rfl, Or.inr rfl, Or.inr rfl, Or.inr rfl, trivial⟩) ?_
                                  exact ih (x3 + (8 : Int32)) _ _ _ hs
                                · rw [if_neg h130] at hs
                                  refine Rc.goL mt_1400 1 (f2 := (if (lg_cmp r123 r127) = 0 then 1428 else 701, [.retAddr 1, .ref 0, .ref 280, .int x3], [], gm M128)) (b := true) rfl rfl ?_
                                  rw [if_neg h130]
                                  refine Rc.goL mt_1400 0 (f2 := (702, [.retAddr 1, .ref 0, .ref 280, .int x3], [.int (0 : Int32)], gm M128)) (b := true) rfl rfl ?_
                                  obtain ⟨e1, e2⟩ := some_p hs; subst e1; subst e2
                                  exact Rc.ret (v := some (.int (0 : Int32))) rfl rfl
                              · rw [if_neg h131] at hs
                                by_cases h151 : ((M.1 9999 (Int32.toNatClampNeg x3)) &&& (63 : Int32)) = (13 : Int32)
                                · rw [if_pos h151] at hs
                                  rw [show swl [(0, 188), (1, 211), (2, 234), (3, 277), (4, 310), (5, 333), (6, 396), (7, 419), (8, 462), (9, 495), (10, 528), (11, 562), (12, 649), (13, 703), (14, 773), (15, 806), (16, 829), (17, 882), (18, 925), (19, 1001), (20, 1024), (21, 1048), (22, 1102), (23, 1125), (24, 1158), (25, 1181), (26, 1224), (27, 1248), (28, 1261), (29, 1274), (30, 1297), (31, 1346), (32, 1359), (33, 1372), (34, 1405)] 1428 ((M.1 9999 (Int32.toNatClampNeg x3)) &&& (63 : Int32)) = 703 by first | (simp only [swl, if_pos h151]; done) | (rw [h151]; decide)]
                                  obtain ⟨hb132, hs⟩ := ck_some hs
                                  obtain ⟨hb132_0, hb132⟩ := and_t hb132
                                  obtain ⟨hb132_1, hb132⟩ := and_t hb132
                                  obtain ⟨hb132_2, hb132⟩ := and_t hb132
                                  obtain ⟨hb132_3, hb132⟩ := and_t hb132
                                  refine Rc.goL mt_1400 6 (f2 := (710, [.retAddr 1, .ref 0, .ref 280, .int x3], [.retAddr 1, .int (M.1 9999 (Int32.toNatClampNeg (x3 + (1 : Int32)))), .ref 0], gm M)) (b := (ib (Int32.toNatClampNeg (M.1 9998 0)) (x3 + (1 : Int32)) && true)) rfl (and_i hb132_0 rfl) ?_
                                  refine Rc.goL mt_1400 6 (f2 := (717, [.retAddr 1, .ref 0, .ref 280, .int x3], [.int (3 : Int32), .int x3, .retAddr 1, .int (M.1 9999 (Int32.toNatClampNeg (x3 + (2 : Int32)))), .int (M.1 9999 (Int32.toNatClampNeg (x3 + (1 : Int32)))), .ref 0], gm M)) (b := (ib (Int32.toNatClampNeg (M.1 9998 0)) (x3 + (2 : Int32)) && true)) rfl (and_i hb132_1 rfl) ?_
                                  refine Rc.goL mt_1400 6 (f2 := (724, [.retAddr 1, .ref 0, .ref 280, .int x3], [.int (M.1 9999 (Int32.toNatClampNeg (x3 + (4 : Int32)))), .int (M.1 9999 (Int32.toNatClampNeg (x3 + (3 : Int32)))), .int (M.1 9999 (Int32.toNatClampNeg (x3 + (2 : Int32)))), .int (M.1 9999 (Int32.toNatClampNeg (x3 + (1 : Int32)))), .ref 0], gm M)) (b := (ib (Int32.toNatClampNeg (M.1 9998 0)) (x3 + (3 : Int32)) && (ib (Int32.toNatClampNeg (M.1 9998 0)) (x3 + (4 : Int32)) && true))) rfl (and_i hb132_2 (and_i hb132_3 rfl)) ?_
                                  refine jn_e (P := fun (j : Int32 → Int32 → SM → Option (Int32 × SM)) => ∀ (x3_133 : Int32) (t134 : Int32) (M135 : SM) (r : Int32) (Mz : SM), j x3_133 t134 M135 = some (r, Mz) → Rc (d + 1) 1400 (732, [.retAddr 1, .ref 0, .ref 280, .int x3_133], [.int t134, .int (M.1 9999 (Int32.toNatClampNeg (x3 + (3 : Int32)))), .int (M.1 9999 (Int32.toNatClampNeg (x3 + (2 : Int32)))), .int (M.1 9999 (Int32.toNatClampNeg (x3 + (1 : Int32)))), .ref 0], gm M135) (some (.int r), gm Mz)) hs ?_ (fun j149 Hj149 hs => ?_)
                                  · intro x3_133 t134 M135 r Mz hs
                                    try dsimp only at hs
                                    obtain ⟨r136, M137, he138, hs⟩ := ob_some hs
                                    refine Rc.callV (i := 74) (mid' := 1114) (av := [.int (M.1 9999 (Int32.toNatClampNeg (x3 + (1 : Int32)))), .int (M.1 9999 (Int32.toNatClampNeg (x3 + (2 : Int32)))), .int (M.1 9999 (Int32.toNatClampNeg (x3 + (3 : Int32)))), .int t134]) (rest := []) (v := some (.long r136)) (M1 := gm M137) (a := 0) rfl rfl rfl cw_1114 rfl (Nat.le_of_ble_eq_true rfl) rfl (Nat.le_of_ble_eq_true rfl) (qfr_earned_ok _ (by omega) he138) ?_
                                    obtain ⟨hb139, hs⟩ := ck_some hs
                                    obtain ⟨hb139_0, hb139⟩ := and_t hb139
                                    obtain ⟨hb139_1, hb139⟩ := and_t hb139
                                    obtain ⟨hb139_2, hb139⟩ := and_t hb139
                                    obtain ⟨hb139_3, hb139⟩ := and_t hb139
                                    refine Rc.goL mt_1400 6 (f2 := (742, [.retAddr 1, .ref 0, .ref 280, .int x3_133], [.retAddr 1, .int (M137.1 9999 (Int32.toNatClampNeg (x3_133 + (1 : Int32)))), .ref 280, .long r136], gm M137)) (b := (ib (Int32.toNatClampNeg (M137.1 9998 0)) (x3_133 + (1 : Int32)) && true)) rfl (and_i hb139_0 rfl) ?_
                                    refine Rc.goL mt_1400 6 (f2 := (749, [.retAddr 1, .ref 0, .ref 280, .int x3_133], [.int (3 : Int32), .int x3_133, .retAddr 1, .int (M137.1 9999 (Int32.toNatClampNeg (x3_133 + (2 : Int32)))), .int (M137.1 9999 (Int32.toNatClampNeg (x3_133 + (1 : Int32)))), .ref 280, .long r136], gm M137)) (b := (ib (Int32.toNatClampNeg (M137.1 9998 0)) (x3_133 + (2 : Int32)) && true)) rfl (and_i hb139_1 rfl) ?_
                                    refine Rc.goL mt_1400 6 (f2 := (756, [.retAddr 1, .ref 0, .ref 280, .int x3_133], [.int (M137.1 9999 (Int32.toNatClampNeg (x3_133 + (4 : Int32)))), .int (M137.1 9999 (Int32.toNatClampNeg (x3_133 + (3 : Int32)))), .int (M137.1 9999 (Int32.toNatClampNeg (x3_133 + (2 : Int32)))), .int (M137.1 9999 (Int32.toNatClampNeg (x3_133 + (1 : Int32)))), .ref 280, .long r136], gm M137)) (b := (ib (Int32.toNatClampNeg (M137.1 9998 0)) (x3_133 + (3 : Int32)) && (ib (Int32.toNatClampNeg (M137.1 9998 0)) (x3_133 + (4 : Int32)) && true))) rfl (and_i hb139_2 (and_i hb139_3 rfl)) ?_
                                    refine jn_e (P := fun (j : Int32 → Int32 → SM → Option (Int32 × SM)) => ∀ (x3_140 : Int32) (t141 : Int32) (M142 : SM) (r : Int32) (Mz : SM), j x3_140 t141 M142 = some (r, Mz) → Rc (d + 1) 1400 (764, [.retAddr 1, .ref 0, .ref 280, .int x3_140], [.int t141, .int (M137.1 9999 (Int32.toNatClampNeg (x3_133 + (3 : Int32)))), .int (M137.1 9999 (Int32.toNatClampNeg (x3_133 + (2 : Int32)))), .int (M137.1 9999 (Int32.toNatClampNeg (x3_133 + (1 : Int32)))), .ref 280, .long r136], gm M142) (some (.int r), gm Mz)) hs ?_ (fun j147 Hj147 hs => ?_)
                                    · intro x3_140 t141 M142 r Mz hs
                                      try dsimp only at hs
                                      obtain ⟨r143, M144, he145, hs⟩ := ob_some hs
                                      refine Rc.callV (i := 78) (mid' := 1260) (av := [.int (M137.1 9999 (Int32.toNatClampNeg (x3_133 + (1 : Int32)))), .int (M137.1 9999 (Int32.toNatClampNeg (x3_133 + (2 : Int32)))), .int (M137.1 9999 (Int32.toNatClampNeg (x3_133 + (3 : Int32)))), .int t141]) (rest := [.long r136]) (v := some (.long r143)) (M1 := gm M144) (a := 280) rfl rfl rfl cw_1260 rfl (Nat.le_of_ble_eq_true rfl) rfl (Nat.le_of_ble_eq_true rfl) (qmd_earned_ok _ (by omega) he145) ?_
                                      by_cases h146 : (lg_cmp r136 r143) = 0
                                      · rw [if_pos h146] at hs
                                        refine Rc.goL mt_1400 1 (f2 := (if (lg_cmp r136 r143) = 0 then 1428 else 771, [.retAddr 1, .ref 0, .ref 280, .int x3_140], [], gm M144)) (b := true) rfl rfl ?_
                                        rw [if_pos h146]
                                        refine Rc.goL mt_1400 1 (f2 := (18, [.retAddr 1, .ref 0, .ref 280, .int (x3_140 + (8 : Int32))], [], gm M144)) (b := true) rfl rfl ?_
                                        refine Rc.less (ls2 := [.retAddr 1, .ref 0, .ref 280, .int (x3_140 + (8 : Int32))]) (by refine ⟨Or.inr rfl, Or.inr rfl, Or.inr rfl, Or.inr rfl, trivial⟩) ?_
                                        exact ih (x3_140 + (8 : Int32)) _ _ _ hs
                                      · rw [if_neg h146] at hs
                                        refine Rc.goL mt_1400 1 (f2 := (if (lg_cmp r136 r143) = 0 then 1428 else 771, [.retAddr 1, .ref 0, .ref 280, .int x3_140], [], gm M144)) (b := true) rfl rfl ?_
                                        rw [if_neg h146]
                                        refine Rc.goL mt_1400 0 (f2 := (772, [.retAddr 1, .ref 0, .ref 280, .int x3_140], [.int (0 : Int32)], gm M144)) (b := true) rfl rfl ?_
                                        obtain ⟨e1, e2⟩ := some_p hs; subst e1; subst e2
                                        exact Rc.ret (v := some (.int (0 : Int32))) rfl rfl
                                    by_cases h148 : (M137.1 9999 (Int32.toNatClampNeg (x3_133 + (4 : Int32)))) = 0
                                    · rw [if_pos h148] at hs
                                      refine Rc.goL mt_1400 0 (f2 := (if (M137.1 9999 (Int32.toNatClampNeg (x3_133 + (4 : Int32)))) = 0 then 763 else 759, [.retAddr 1, .ref 0, .ref 280, .int x3_133], [.int (M137.1 9999 (Int32.toNatClampNeg (x3_133 + (3 : Int32)))), .int (M137.1 9999 (Int32.toNatClampNeg (x3_133 + (2 : Int32)))), .int (M137.1 9999 (Int32.toNatClampNeg (x3_133 + (1 : Int32)))), .ref 280, .long r136], gm M137)) (b := true) rfl rfl ?_
                                      rw [if_pos h148]
                                      refine Rc.goL mt_1400 0 (f2 := (764, [.retAddr 1, .ref 0, .ref 280, .int x3_133], [.int (0 : Int32), .int (M137.1 9999 (Int32.toNatClampNeg (x3_133 + (3 : Int32)))), .int (M137.1 9999 (Int32.toNatClampNeg (x3_133 + (2 : Int32)))), .int (M137.1 9999 (Int32.toNatClampNeg (x3_133 + (1 : Int32)))), .ref 280, .long r136], gm M137)) (b := true) rfl rfl ?_
                                      refine Rc.less (ls2 := [.retAddr 1, .ref 0, .ref 280, .int x3_133]) (by refine ⟨Or.inr rfl, Or.inr rfl, Or.inr rfl, Or.inr rfl, trivial⟩) ?_
                                      exact Hj147 x3_133 (0 : Int32) _ _ _ hs
                                    · rw [if_neg h148] at hs
                                      refine Rc.goL mt_1400 0 (f2 := (if (M137.1 9999 (Int32.toNatClampNeg (x3_133 + (4 : Int32)))) = 0 then 763 else 759, [.retAddr 1, .ref 0, .ref 280, .int x3_133], [.int (M137.1 9999 (Int32.toNatClampNeg (x3_133 + (3 : Int32)))), .int (M137.1 9999 (Int32.toNatClampNeg (x3_133 + (2 : Int32)))), .int (M137.1 9999 (Int32.toNatClampNeg (x3_133 + (1 : Int32)))), .ref 280, .long r136], gm M137)) (b := true) rfl rfl ?_
                                      rw [if_neg h148]
                                      refine Rc.goL mt_1400 1 (f2 := (764, [.retAddr 1, .ref 0, .ref 280, .int x3_133], [.int (1 : Int32), .int (M137.1 9999 (Int32.toNatClampNeg (x3_133 + (3 : Int32)))), .int (M137.1 9999 (Int32.toNatClampNeg (x3_133 + (2 : Int32)))), .int (M137.1 9999 (Int32.toNatClampNeg (x3_133 + (1 : Int32)))), .ref 280, .long r136], gm M137)) (b := true) rfl rfl ?_
                                      refine Rc.less (ls2 := [.retAddr 1, .ref 0, .ref 280, .int x3_133]) (by refine ⟨Or.inr rfl, Or.inr rfl, Or.inr rfl, Or.inr rfl, trivial⟩) ?_
                                      exact Hj147 x3_133 (1 : Int32) _ _ _ hs
                                  by_cases h150 : (M.1 9999 (Int32.toNatClampNeg (x3 + (4 : Int32)))) = 0
                                  · rw [if_pos h150] at hs
                                    refine Rc.goL mt_1400 0 (f2 := (if (M.1 9999 (Int32.toNatClampNeg (x3 + (4 : Int32)))) = 0 then 731 else 727, [.retAddr 1, .ref 0, .ref 280, .int x3], [.int (M.1 9999 (Int32.toNatClampNeg (x3 + (3 : Int32)))), .int (M.1 9999 (Int32.toNatClampNeg (x3 + (2 : Int32)))), .int (M.1 9999 (Int32.toNatClampNeg (x3 + (1 : Int32)))), .ref 0], gm M)) (b := true) rfl rfl ?_
                                    rw [if_pos h150]
                                    refine Rc.goL mt_1400 0 (f2 := (732, [.retAddr 1, .ref 0, .ref 280, .int x3], [.int (0 : Int32), .int (M.1 9999 (Int32.toNatClampNeg (x3 + (3 : Int32)))), .int (M.1 9999 (Int32.toNatClampNeg (x3 + (2 : Int32)))), .int (M.1 9999 (Int32.toNatClampNeg (x3 + (1 : Int32)))), .ref 0], gm M)) (b := true) rfl rfl ?_
                                    refine Rc.less (ls2 := [.retAddr 1, .ref 0, .ref 280, .int x3]) (by refine ⟨Or.inr rfl, Or.inr rfl, Or.inr rfl, Or.inr rfl, trivial⟩) ?_
                                    exact Hj149 x3 (0 : Int32) _ _ _ hs
                                  · rw [if_neg h150] at hs
                                    refine Rc.goL mt_1400 0 (f2 := (if (M.1 9999 (Int32.toNatClampNeg (x3 + (4 : Int32)))) = 0 then 731 else 727, [.retAddr 1, .ref 0, .ref 280, .int x3], [.int (M.1 9999 (Int32.toNatClampNeg (x3 + (3 : Int32)))), .int (M.1 9999 (Int32.toNatClampNeg (x3 + (2 : Int32)))), .int (M.1 9999 (Int32.toNatClampNeg (x3 + (1 : Int32)))), .ref 0], gm M)) (b := true) rfl rfl ?_
                                    rw [if_neg h150]
                                    refine Rc.goL mt_1400 1 (f2 := (732, [.retAddr 1, .ref 0, .ref 280, .int x3], [.int (1 : Int32), .int (M.1 9999 (Int32.toNatClampNeg (x3 + (3 : Int32)))), .int (M.1 9999 (Int32.toNatClampNeg (x3 + (2 : Int32)))), .int (M.1 9999 (Int32.toNatClampNeg (x3 + (1 : Int32)))), .ref 0], gm M)) (b := true) rfl rfl ?_
                                    refine Rc.less (ls2 := [.retAddr 1, .ref 0, .ref 280, .int x3]) (by refine ⟨Or.inr rfl, Or.inr rfl, Or.inr rfl, Or.inr rfl, trivial⟩) ?_
                                    exact Hj149 x3 (1 : Int32) _ _ _ hs
                                · rw [if_neg h151] at hs
                                  by_cases h161 : ((M.1 9999 (Int32.toNatClampNeg x3)) &&& (63 : Int32)) = (14 : Int32)
                                  · rw [if_pos h161] at hs
                                    rw [show swl [(0, 188), (1, 211), (2, 234), (3, 277), (4, 310), (5, 333), (6, 396), (7, 419), (8, 462), (9, 495), (10, 528), (11, 562), (12, 649), (13, 703), (14, 773), (15, 806), (16, 829), (17, 882), (18, 925), (19, 1001), (20, 1024), (21, 1048), (22, 1102), (23, 1125), (24, 1158), (25, 1181), (26, 1224), (27, 1248), (28, 1261), (29, 1274), (30, 1297), (31, 1346), (32, 1359), (33, 1372), (34, 1405)] 1428 ((M.1 9999 (Int32.toNatClampNeg x3)) &&& (63 : Int32)) = 773 by first | (simp only [swl, if_pos h161]; done) | (rw [h161]; decide)]
                                    obtain ⟨hb152, hs⟩ := ck_some hs
                                    obtain ⟨hb152_0, hb152⟩ := and_t hb152
                                    obtain ⟨hb152_1, hb152⟩ := and_t hb152
                                    refine Rc.goL mt_1400 6 (f2 := (780, [.retAddr 1, .ref 0, .ref 280, .int x3], [.retAddr 1, .int (M.1 9999 (Int32.toNatClampNeg (x3 + (1 : Int32)))), .ref 0], gm M)) (b := (ib (Int32.toNatClampNeg (M.1 9998 0)) (x3 + (1 : Int32)) && true)) rfl (and_i hb152_0 rfl) ?_
                                    refine Rc.goL mt_1400 3 (f2 := (784, [.retAddr 1, .ref 0, .ref 280, .int x3], [.int (M.1 9999 (Int32.toNatClampNeg (x3 + (2 : Int32)))), .int (M.1 9999 (Int32.toNatClampNeg (x3 + (1 : Int32)))), .ref 0], gm M)) (b := (ib (Int32.toNatClampNeg (M.1 9998 0)) (x3 + (2 : Int32)) && true)) rfl (and_i hb152_1 rfl) ?_
                                    obtain ⟨r153, M154, he155, hs⟩ := ob_some hs
                                    refine Rc.callV (i := 79) (mid' := 1115) (av := [.int (M.1 9999 (Int32.toNatClampNeg (x3 + (1 : Int32)))), .int (M.1 9999 (Int32.toNatClampNeg (x3 + (2 : Int32))))]) (rest := []) (v := some (.int r153)) (M1 := gm M154) (a := 0) rfl rfl rfl cw_1115 rfl (Nat.le_of_ble_eq_true rfl) rfl (Nat.le_of_ble_eq_true rfl) (qfr_number_ok _ (by omega) he155) ?_
                                    obtain ⟨hb156, hs⟩ := ck_some hs
                                    obtain ⟨hb156_0, hb156⟩ := and_t hb156
                                    obtain ⟨hb156_1, hb156⟩ := and_t hb156
                                    refine Rc.goL mt_1400 6 (f2 := (794, [.retAddr 1, .ref 0, .ref 280, .int x3], [.retAddr 1, .int (M154.1 9999 (Int32.toNatClampNeg (x3 + (1 : Int32)))), .ref 280, .int r153], gm M154)) (b := (ib (Int32.toNatClampNeg (M154.1 9998 0)) (x3 + (1 : Int32)) && true)) rfl (and_i hb156_0 rfl) ?_
                                    refine Rc.goL mt_1400 3 (f2 := (798, [.retAddr 1, .ref 0, .ref 280, .int x3], [.int (M154.1 9999 (Int32.toNatClampNeg (x3 + (2 : Int32)))), .int (M154.1 9999 (Int32.toNatClampNeg (x3 + (1 : Int32)))), .ref 280, .int r153], gm M154)) (b := (ib (Int32.toNatClampNeg (M154.1 9998 0)) (x3 + (2 : Int32)) && true)) rfl (and_i hb156_1 rfl) ?_
                                    obtain ⟨r157, M158, he159, hs⟩ := ob_some hs
                                    refine Rc.callV (i := 82) (mid' := 1261) (av := [.int (M154.1 9999 (Int32.toNatClampNeg (x3 + (1 : Int32)))), .int (M154.1 9999 (Int32.toNatClampNeg (x3 + (2 : Int32))))]) (rest := [.int r153]) (v := some (.int r157)) (M1 := gm M158) (a := 280) rfl rfl rfl cw_1261 rfl (Nat.le_of_ble_eq_true rfl) rfl (Nat.le_of_ble_eq_true rfl) (qmd_number_ok _ (by omega) he159) ?_
                                    by_cases h160 : r153 = r157
                                    · rw [if_pos h160] at hs
                                      refine Rc.goL mt_1400 0 (f2 := (if r153 = r157 then 1428 else 804, [.retAddr 1, .ref 0, .ref 280, .int x3], [], gm M158)) (b := true) rfl rfl ?_
                                      rw [if_pos h160]
                                      refine Rc.goL mt_1400 1 (f2 := (18, [.retAddr 1, .ref 0, .ref 280, .int (x3 + (8 : Int32))], [], gm M158)) (b := true) rfl rfl ?_
                                      refine Rc.less (ls2 := [.retAddr 1, .ref 0, .ref 280, .int (x3 + (8 : Int32))]) (by refine ⟨Or.inr rfl, Or.inr rfl, Or.inr rfl, Or.inr rfl, trivial⟩) ?_
                                      exact ih (x3 + (8 : Int32)) _ _ _ hs
                                    · rw [if_neg h160] at hs
                                      refine Rc.goL mt_1400 0 (f2 := (if r153 = r157 then 1428 else 804, [.retAddr 1, .ref 0, .ref 280, .int x3], [], gm M158)) (b := true) rfl rfl ?_
                                      rw [if_neg h160]
                                      refine Rc.goL mt_1400 0 (f2 := (805, [.retAddr 1, .ref 0, .ref 280, .int x3], [.int (0 : Int32)], gm M158)) (b := true) rfl rfl ?_
                                      obtain ⟨e1, e2⟩ := some_p hs; subst e1; subst e2
                                      exact Rc.ret (v := some (.int (0 : Int32))) rfl rfl
                                  · rw [if_neg h161] at hs
                                    by_cases h171 : ((M.1 9999 (Int32.toNatClampNeg x3)) &&& (63 : Int32)) = (15 : Int32)
                                    · rw [if_pos h171] at hs
                                      rw [show swl [(0, 188), (1, 211), (2, 234), (3, 277), (4, 310), (5, 333), (6, 396), (7, 419), (8, 462), (9, 495), (10, 528), (11, 562), (12, 649), (13, 703), (14, 773), (15, 806), (16, 829), (17, 882), (18, 925), (19, 1001), (20, 1024), (21, 1048), (22, 1102), (23, 1125), (24, 1158), (25, 1181), (26, 1224), (27, 1248), (28, 1261), (29, 1274), (30, 1297), (31, 1346), (32, 1359), (33, 1372), (34, 1405)] 1428 ((M.1 9999 (Int32.toNatClampNeg x3)) &&& (63 : Int32)) = 806 by first | (simp only [swl, if_pos h171]; done) | (rw [h171]; decide)]
                                      obtain ⟨hb162, hs⟩ := ck_some hs
                                      refine Rc.goL mt_1400 5 (f2 := (812, [.retAddr 1, .ref 0, .ref 280, .int x3], [.int (M.1 9999 (Int32.toNatClampNeg (x3 + (1 : Int32)))), .ref 0], gm M)) (b := (ib (Int32.toNatClampNeg (M.1 9998 0)) (x3 + (1 : Int32)) && true)) rfl hb162 ?_
                                      obtain ⟨r163, M164, he165, hs⟩ := ob_some hs
                                      refine Rc.callV (i := 83) (mid' := 1116) (av := [.int (M.1 9999 (Int32.toNatClampNeg (x3 + (1 : Int32))))]) (rest := []) (v := some (.int r163)) (M1 := gm M164) (a := 0) rfl rfl rfl cw_1116 rfl (Nat.le_of_ble_eq_true rfl) rfl (Nat.le_of_ble_eq_true rfl) (qfr_amiss_ok _ (by omega) he165) ?_
                                      obtain ⟨hb166, hs⟩ := ck_some hs
                                      refine Rc.goL mt_1400 5 (f2 := (821, [.retAddr 1, .ref 0, .ref 280, .int x3], [.int (M164.1 9999 (Int32.toNatClampNeg (x3 + (1 : Int32)))), .ref 280, .int r163], gm M164)) (b := (ib (Int32.toNatClampNeg (M164.1 9998 0)) (x3 + (1 : Int32)) && true)) rfl hb166 ?_
                                      obtain ⟨r167, M168, he169, hs⟩ := ob_some hs
                                      refine Rc.callV (i := 86) (mid' := 1262) (av := [.int (M164.1 9999 (Int32.toNatClampNeg (x3 + (1 : Int32))))]) (rest := [.int r163]) (v := some (.int r167)) (M1 := gm M168) (a := 280) rfl rfl rfl cw_1262 rfl (Nat.le_of_ble_eq_true rfl) rfl (Nat.le_of_ble_eq_true rfl) (qmd_amiss_ok _ (by omega) he169) ?_
                                      by_cases h170 : r163 = r167
                                      · rw [if_pos h170] at hs
                                        refine Rc.goL mt_1400 0 (f2 := (if r163 = r167 then 1428 else 827, [.retAddr 1, .ref 0, .ref 280, .int x3], [], gm M168)) (b := true) rfl rfl ?_
                                        rw [if_pos h170]
                                        refine Rc.goL mt_1400 1 (f2 := (18, [.retAddr 1, .ref 0, .ref 280, .int (x3 + (8 : Int32))], [], gm M168)) (b := true) rfl rfl ?_
                                        refine Rc.less (ls2 := [.retAddr 1, .ref 0, .ref 280, .int (x3 + (8 : Int32))]) (by refine ⟨Or.inr rfl, Or.inr rfl, Or.inr rfl, Or.inr rfl, trivial⟩) ?_
                                        exact ih (x3 + (8 : Int32)) _ _ _ hs
                                      · rw [if_neg h170] at hs
                                        refine Rc.goL mt_1400 0 (f2 := (if r163 = r167 then 1428 else 827, [.retAddr 1, .ref 0, .ref 280, .int x3], [], gm M168)) (b := true) rfl rfl ?_
                                        rw [if_neg h170]
                                        refine Rc.goL mt_1400 0 (f2 := (828, [.retAddr 1, .ref 0, .ref 280, .int x3], [.int (0 : Int32)], gm M168)) (b := true) rfl rfl ?_
                                        obtain ⟨e1, e2⟩ := some_p hs; subst e1; subst e2
                                        exact Rc.ret (v := some (.int (0 : Int32))) rfl rfl
                                    · rw [if_neg h171] at hs
                                      by_cases h181 : ((M.1 9999 (Int32.toNatClampNeg x3)) &&& (63 : Int32)) = (16 : Int32)
                                      · rw [if_pos h181] at hs
                                        rw [show swl [(0, 188), (1, 211), (2, 234), (3, 277), (4, 310), (5, 333), (6, 396), (7, 419), (8, 462), (9, 495), (10, 528), (11, 562), (12, 649), (13, 703), (14, 773), (15, 806), (16, 829), (17, 882), (18, 925), (19, 1001), (20, 1024), (21, 1048), (22, 1102), (23, 1125), (24, 1158), (25, 1181), (26, 1224), (27, 1248), (28, 1261), (29, 1274), (30, 1297), (31, 1346), (32, 1359), (33, 1372), (34, 1405)] 1428 ((M.1 9999 (Int32.toNatClampNeg x3)) &&& (63 : Int32)) = 829 by first | (simp only [swl, if_pos h181]; done) | (rw [h181]; decide)]
                                        obtain ⟨hb172, hs⟩ := ck_some hs
                                        obtain ⟨hb172_0, hb172⟩ := and_t hb172
                                        obtain ⟨hb172_1, hb172⟩ := and_t hb172
                                        obtain ⟨hb172_2, hb172⟩ := and_t hb172
                                        obtain ⟨hb172_3, hb172⟩ := and_t hb172
                                        refine Rc.goL mt_1400 6 (f2 := (836, [.retAddr 1, .ref 0, .ref 280, .int x3], [.retAddr 1, .int (M.1 9999 (Int32.toNatClampNeg (x3 + (1 : Int32)))), .ref 0], gm M)) (b := (ib (Int32.toNatClampNeg (M.1 9998 0)) (x3 + (1 : Int32)) && true)) rfl (and_i hb172_0 rfl) ?_
                                        refine Rc.goL mt_1400 6 (f2 := (843, [.retAddr 1, .ref 0, .ref 280, .int x3], [.int (3 : Int32), .int x3, .retAddr 1, .int (M.1 9999 (Int32.toNatClampNeg (x3 + (2 : Int32)))), .int (M.1 9999 (Int32.toNatClampNeg (x3 + (1 : Int32)))), .ref 0], gm M)) (b := (ib (Int32.toNatClampNeg (M.1 9998 0)) (x3 + (2 : Int32)) && true)) rfl (and_i hb172_1 rfl) ?_
                                        refine Rc.goL mt_1400 6 (f2 := (850, [.retAddr 1, .ref 0, .ref 280, .int x3], [.int (M.1 9999 (Int32.toNatClampNeg (x3 + (4 : Int32)))), .int (M.1 9999 (Int32.toNatClampNeg (x3 + (3 : Int32)))), .int (M.1 9999 (Int32.toNatClampNeg (x3 + (2 : Int32)))), .int (M.1 9999 (Int32.toNatClampNeg (x3 + (1 : Int32)))), .ref 0], gm M)) (b := (ib (Int32.toNatClampNeg (M.1 9998 0)) (x3 + (3 : Int32)) && (ib (Int32.toNatClampNeg (M.1 9998 0)) (x3 + (4 : Int32)) && true))) rfl (and_i hb172_2 (and_i hb172_3 rfl)) ?_
                                        obtain ⟨r173, M174, he175, hs⟩ := ob_some hs
                                        refine Rc.callV (i := 87) (mid' := 1117) (av := [.int (M.1 9999 (Int32.toNatClampNeg (x3 + (1 : Int32)))), .int (M.1 9999 (Int32.toNatClampNeg (x3 + (2 : Int32)))), .int (M.1 9999 (Int32.toNatClampNeg (x3 + (3 : Int32)))), .int (M.1 9999 (Int32.toNatClampNeg (x3 + (4 : Int32))))]) (rest := []) (v := some (.int r173)) (M1 := gm M174) (a := 0) rfl rfl rfl cw_1117 rfl (Nat.le_of_ble_eq_true rfl) rfl (Nat.le_of_ble_eq_true rfl) (qfr_tells_ok _ (by omega) he175) ?_
                                        obtain ⟨hb176, hs⟩ := ck_some hs
                                        obtain ⟨hb176_0, hb176⟩ := and_t hb176
                                        obtain ⟨hb176_1, hb176⟩ := and_t hb176
                                        obtain ⟨hb176_2, hb176⟩ := and_t hb176
                                        obtain ⟨hb176_3, hb176⟩ := and_t hb176
                                        refine Rc.goL mt_1400 6 (f2 := (860, [.retAddr 1, .ref 0, .ref 280, .int x3], [.retAddr 1, .int (M174.1 9999 (Int32.toNatClampNeg (x3 + (1 : Int32)))), .ref 280, .int r173], gm M174)) (b := (ib (Int32.toNatClampNeg (M174.1 9998 0)) (x3 + (1 : Int32)) && true)) rfl (and_i hb176_0 rfl) ?_
                                        refine Rc.goL mt_1400 6 (f2 := (867, [.retAddr 1, .ref 0, .ref 280, .int x3], [.int (3 : Int32), .int x3, .retAddr 1, .int (M174.1 9999 (Int32.toNatClampNeg (x3 + (2 : Int32)))), .int (M174.1 9999 (Int32.toNatClampNeg (x3 + (1 : Int32)))), .ref 280, .int r173], gm M174)) (b := (ib (Int32.toNatClampNeg (M174.1 9998 0)) (x3 + (2 : Int32)) && true)) rfl (and_i hb176_1 rfl) ?_
                                        refine Rc.goL mt_1400 6 (f2 := (874, [.retAddr 1, .ref 0, .ref 280, .int x3], [.int (M174.1 9999 (Int32.toNatClampNeg (x3 + (4 : Int32)))), .int (M174.1 9999 (Int32.toNatClampNeg (x3 + (3 : Int32)))), .int (M174.1 9999 (Int32.toNatClampNeg (x3 + (2 : Int32)))), .int (M174.1 9999 (Int32.toNatClampNeg (x3 + (1 : Int32)))), .ref 280, .int r173], gm M174)) (b := (ib (Int32.toNatClampNeg (M174.1 9998 0)) (x3 + (3 : Int32)) && (ib (Int32.toNatClampNeg (M174.1 9998 0)) (x3 + (4 : Int32)) && true))) rfl (and_i hb176_2 (and_i hb176_3 rfl)) ?_
                                        obtain ⟨r177, M178, he179, hs⟩ := ob_some hs
                                        refine Rc.callV (i := 91) (mid' := 1263) (av := [.int (M174.1 9999 (Int32.toNatClampNeg (x3 + (1 : Int32)))), .int (M174.1 9999 (Int32.toNatClampNeg (x3 + (2 : Int32)))), .int (M174.1 9999 (Int32.toNatClampNeg (x3 + (3 : Int32)))), .int (M174.1 9999 (Int32.toNatClampNeg (x3 + (4 : Int32))))]) (rest := [.int r173]) (v := some (.int r177)) (M1 := gm M178) (a := 280) rfl rfl rfl cw_1263 rfl (Nat.le_of_ble_eq_true rfl) rfl (Nat.le_of_ble_eq_true rfl) (qmd_tells_ok _ (by omega) he179) ?_
                                        by_cases h180 : r173 = r177
                                        · rw [if_pos h180] at hs
                                          refine Rc.goL mt_1400 0 (f2 := (if r173 = r177 then 1428 else 880, [.retAddr 1, .ref 0, .ref 280, .int x3], [], gm M178)) (b := true) rfl rfl ?_
                                          rw [if_pos h180]
                                          refine Rc.goL mt_1400 1 (f2 := (18, [.retAddr 1, .ref 0, .ref 280, .int (x3 + (8 : Int32))], [], gm M178)) (b := true) rfl rfl ?_
                                          refine Rc.less (ls2 := [.retAddr 1, .ref 0, .ref 280, .int (x3 + (8 : Int32))]) (by refine ⟨Or.inr rfl, Or.inr rfl, Or.inr rfl, Or.inr rfl, trivial⟩) ?_
                                          exact ih (x3 + (8 : Int32)) _ _ _ hs
                                        · rw [if_neg h180] at hs
                                          refine Rc.goL mt_1400 0 (f2 := (if r173 = r177 then 1428 else 880, [.retAddr 1, .ref 0, .ref 280, .int x3], [], gm M178)) (b := true) rfl rfl ?_
                                          rw [if_neg h180]
                                          refine Rc.goL mt_1400 0 (f2 := (881, [.retAddr 1, .ref 0, .ref 280, .int x3], [.int (0 : Int32)], gm M178)) (b := true) rfl rfl ?_
                                          obtain ⟨e1, e2⟩ := some_p hs; subst e1; subst e2
                                          exact Rc.ret (v := some (.int (0 : Int32))) rfl rfl
                                      · rw [if_neg h181] at hs
                                        by_cases h191 : ((M.1 9999 (Int32.toNatClampNeg x3)) &&& (63 : Int32)) = (17 : Int32)
                                        · rw [if_pos h191] at hs
                                          rw [show swl [(0, 188), (1, 211), (2, 234), (3, 277), (4, 310), (5, 333), (6, 396), (7, 419), (8, 462), (9, 495), (10, 528), (11, 562), (12, 649), (13, 703), (14, 773), (15, 806), (16, 829), (17, 882), (18, 925), (19, 1001), (20, 1024), (21, 1048), (22, 1102), (23, 1125), (24, 1158), (25, 1181), (26, 1224), (27, 1248), (28, 1261), (29, 1274), (30, 1297), (31, 1346), (32, 1359), (33, 1372), (34, 1405)] 1428 ((M.1 9999 (Int32.toNatClampNeg x3)) &&& (63 : Int32)) = 882 by first | (simp only [swl, if_pos h191]; done) | (rw [h191]; decide)]
                                          obtain ⟨hb182, hs⟩ := ck_some hs
                                          obtain ⟨hb182_0, hb182⟩ := and_t hb182
                                          obtain ⟨hb182_1, hb182⟩ := and_t hb182
                                          obtain ⟨hb182_2, hb182⟩ := and_t hb182
                                          refine Rc.goL mt_1400 6 (f2 := (889, [.retAddr 1, .ref 0, .ref 280, .int x3], [.retAddr 1, .int (M.1 9999 (Int32.toNatClampNeg (x3 + (1 : Int32)))), .ref 0], gm M)) (b := (ib (Int32.toNatClampNeg (M.1 9998 0)) (x3 + (1 : Int32)) && true)) rfl (and_i hb182_0 rfl) ?_
                                          refine Rc.goL mt_1400 6 (f2 := (896, [.retAddr 1, .ref 0, .ref 280, .int x3], [.int (3 : Int32), .int x3, .retAddr 1, .int (M.1 9999 (Int32.toNatClampNeg (x3 + (2 : Int32)))), .int (M.1 9999 (Int32.toNatClampNeg (x3 + (1 : Int32)))), .ref 0], gm M)) (b := (ib (Int32.toNatClampNeg (M.1 9998 0)) (x3 + (2 : Int32)) && true)) rfl (and_i hb182_1 rfl) ?_
                                          refine Rc.goL mt_1400 1 (f2 := (898, [.retAddr 1, .ref 0, .ref 280, .int x3], [.int (M.1 9999 (Int32.toNatClampNeg (x3 + (3 : Int32)))), .int (M.1 9999 (Int32.toNatClampNeg (x3 + (2 : Int32)))), .int (M.1 9999 (Int32.toNatClampNeg (x3 + (1 : Int32)))), .ref 0], gm M)) (b := (ib (Int32.toNatClampNeg (M.1 9998 0)) (x3 + (3 : Int32)) && true)) rfl (and_i hb182_2 rfl) ?_
                                          obtain ⟨r183, M184, he185, hs⟩ := ob_some hs
                                          refine Rc.callV (i := 92) (mid' := 1118) (av := [.int (M.1 9999 (Int32.toNatClampNeg (x3 + (1 : Int32)))), .int (M.1 9999 (Int32.toNatClampNeg (x3 + (2 : Int32)))), .int (M.1 9999 (Int32.toNatClampNeg (x3 + (3 : Int32))))]) (rest := []) (v := some (.int r183)) (M1 := gm M184) (a := 0) rfl rfl rfl cw_1118 rfl (Nat.le_of_ble_eq_true rfl) rfl (Nat.le_of_ble_eq_true rfl) (qfr_differs_ok _ (by omega) he185) ?_
                                          obtain ⟨hb186, hs⟩ := ck_some hs
                                          obtain ⟨hb186_0, hb186⟩ := and_t hb186
                                          obtain ⟨hb186_1, hb186⟩ := and_t hb186
                                          obtain ⟨hb186_2, hb186⟩ := and_t hb186
                                          refine Rc.goL mt_1400 6 (f2 := (908, [.retAddr 1, .ref 0, .ref 280, .int x3], [.retAddr 1, .int (M184.1 9999 (Int32.toNatClampNeg (x3 + (1 : Int32)))), .ref 280, .int r183], gm M184)) (b := (ib (Int32.toNatClampNeg (M184.1 9998 0)) (x3 + (1 : Int32)) && true)) rfl (and_i hb186_0 rfl) ?_
                                          refine Rc.goL mt_1400 6 (f2 := (915, [.retAddr 1, .ref 0, .ref 280, .int x3], [.int (3 : Int32), .int x3, .retAddr 1, .int (M184.1 9999 (Int32.toNatClampNeg (x3 + (2 : Int32)))), .int (M184.1 9999 (Int32.toNatClampNeg (x3 + (1 : Int32)))), .ref 280, .int r183], gm M184)) (b := (ib (Int32.toNatClampNeg (M184.1 9998 0)) (x3 + (2 : Int32)) && true)) rfl (and_i hb186_1 rfl) ?_
                                          refine Rc.goL mt_1400 1 (f2 := (917, [.retAddr 1, .ref 0, .ref 280, .int x3], [.int (M184.1 9999 (Int32.toNatClampNeg (x3 + (3 : Int32)))), .int (M184.1 9999 (Int32.toNatClampNeg (x3 + (2 : Int32)))), .int (M184.1 9999 (Int32.toNatClampNeg (x3 + (1 : Int32)))), .ref 280, .int r183], gm M184)) (b := (ib (Int32.toNatClampNeg (M184.1 9998 0)) (x3 + (3 : Int32)) && true)) rfl (and_i hb186_2 rfl) ?_
                                          obtain ⟨r187, M188, he189, hs⟩ := ob_some hs
                                          refine Rc.callV (i := 95) (mid' := 1265) (av := [.int (M184.1 9999 (Int32.toNatClampNeg (x3 + (1 : Int32)))), .int (M184.1 9999 (Int32.toNatClampNeg (x3 + (2 : Int32)))), .int (M184.1 9999 (Int32.toNatClampNeg (x3 + (3 : Int32))))]) (rest := [.int r183]) (v := some (.int r187)) (M1 := gm M188) (a := 280) rfl rfl rfl cw_1265 rfl (Nat.le_of_ble_eq_true rfl) rfl (Nat.le_of_ble_eq_true rfl) (qmd_differs_ok _ (by omega) he189) ?_
                                          by_cases h190 : r183 = r187
                                          · rw [if_pos h190] at hs
                                            refine Rc.goL mt_1400 0 (f2 := (if r183 = r187 then 1428 else 923, [.retAddr 1, .ref 0, .ref 280, .int x3], [], gm M188)) (b := true) rfl rfl ?_
                                            rw [if_pos h190]
                                            refine Rc.goL mt_1400 1 (f2 := (18, [.retAddr 1, .ref 0, .ref 280, .int (x3 + (8 : Int32))], [], gm M188)) (b := true) rfl rfl ?_
                                            refine Rc.less (ls2 := [.retAddr 1, .ref 0, .ref 280, .int (x3 + (8 : Int32))]) (by refine ⟨Or.inr rfl, Or.inr rfl, Or.inr rfl, Or.inr rfl, trivial⟩) ?_
                                            exact ih (x3 + (8 : Int32)) _ _ _ hs
                                          · rw [if_neg h190] at hs
                                            refine Rc.goL mt_1400 0 (f2 := (if r183 = r187 then 1428 else 923, [.retAddr 1, .ref 0, .ref 280, .int x3], [], gm M188)) (b := true) rfl rfl ?_
                                            rw [if_neg h190]
                                            refine Rc.goL mt_1400 0 (f2 := (924, [.retAddr 1, .ref 0, .ref 280, .int x3], [.int (0 : Int32)], gm M188)) (b := true) rfl rfl ?_
                                            obtain ⟨e1, e2⟩ := some_p hs; subst e1; subst e2
                                            exact Rc.ret (v := some (.int (0 : Int32))) rfl rfl
                                        · rw [if_neg h191] at hs
                                          by_cases h201 : ((M.1 9999 (Int32.toNatClampNeg x3)) &&& (63 : Int32)) = (18 : Int32)
                                          · rw [if_pos h201] at hs
                                            rw [show swl [(0, 188), (1, 211), (2, 234), (3, 277), (4, 310), (5, 333), (6, 396), (7, 419), (8, 462), (9, 495), (10, 528), (11, 562), (12, 649), (13, 703), (14, 773), (15, 806), (16, 829), (17, 882), (18, 925), (19, 1001), (20, 1024), (21, 1048), (22, 1102), (23, 1125), (24, 1158), (25, 1181), (26, 1224), (27, 1248), (28, 1261), (29, 1274), (30, 1297), (31, 1346), (32, 1359), (33, 1372), (34, 1405)] 1428 ((M.1 9999 (Int32.toNatClampNeg x3)) &&& (63 : Int32)) = 925 by first | (simp only [swl, if_pos h201]; done) | (rw [h201]; decide)]
                                            obtain ⟨hb192, hs⟩ := ck_some hs
                                            obtain ⟨hb192_0, hb192⟩ := and_t hb192
                                            obtain ⟨hb192_1, hb192⟩ := and_t hb192
                                            obtain ⟨hb192_2, hb192⟩ := and_t hb192
                                            obtain ⟨hb192_3, hb192⟩ := and_t hb192
                                            obtain ⟨hb192_4, hb192⟩ := and_t hb192
                                            obtain ⟨hb192_5, hb192⟩ := and_t hb192
                                            refine Rc.goL mt_1400 6 (f2 := (932, [.retAddr 1, .ref 0, .ref 280, .int x3], [.retAddr 1, .int (M.1 9999 (Int32.toNatClampNeg (x3 + (1 : Int32)))), .ref 0], gm M)) (b := (ib (Int32.toNatClampNeg (M.1 9998 0)) (x3 + (1 : Int32)) && true)) rfl (and_i hb192_0 rfl) ?_
                                            refine Rc.goL mt_1400 6 (f2 := (939, [.retAddr 1, .ref 0, .ref 280, .int x3], [.int (3 : Int32), .int x3, .retAddr 1, .int (M.1 9999 (Int32.toNatClampNeg (x3 + (2 : Int32)))), .int (M.1 9999 (Int32.toNatClampNeg (x3 + (1 : Int32)))), .ref 0], gm M)) (b := (ib (Int32.toNatClampNeg (M.1 9998 0)) (x3 + (2 : Int32)) && true)) rfl (and_i hb192_1 rfl) ?_
                                            refine Rc.goL mt_1400 6 (f2 := (946, [.retAddr 1, .ref 0, .ref 280, .int x3], [.int (M.1 9999 (Int32.toNatClampNeg (x3 + (4 : Int32)))), .int (M.1 9999 (Int32.toNatClampNeg (x3 + (3 : Int32)))), .int (M.1 9999 (Int32.toNatClampNeg (x3 + (2 : Int32)))), .int (M.1 9999 (Int32.toNatClampNeg (x3 + (1 : Int32)))), .ref 0], gm M)) (b := (ib (Int32.toNatClampNeg (M.1 9998 0)) (x3 + (3 : Int32)) && (ib (Int32.toNatClampNeg (M.1 9998 0)) (x3 + (4 : Int32)) && true))) rfl (and_i hb192_2 (and_i hb192_3 rfl)) ?_
                                            refine Rc.goL mt_1400 6 (f2 := (953, [.retAddr 1, .ref 0, .ref 280, .int x3], [.int x3, .retAddr 1, .int (M.1 9999 (Int32.toNatClampNeg (x3 + (5 : Int32)))), .int (M.1 9999 (Int32.toNatClampNeg (x3 + (4 : Int32)))), .int (M.1 9999 (Int32.toNatClampNeg (x3 + (3 : Int32)))), .int (M.1 9999 (Int32.toNatClampNeg (x3 + (2 : Int32)))), .int (M.1 9999 (Int32.toNatClampNeg (x3 + (1 : Int32)))), .ref 0], gm M)) (b := (ib (Int32.toNatClampNeg (M.1 9998 0)) (x3 + (5 : Int32)) && true)) rfl (and_i hb192_4 rfl) ?_
                                            refine Rc.goL mt_1400 2 (f2 := (957, [.retAddr 1, .ref 0, .ref 280, .int x3], [.int (M.1 9999 (Int32.toNatClampNeg (x3 + (6 : Int32)))), .int (M.1 9999 (Int32.toNatClampNeg (x3 + (5 : Int32)))), .int (M.1 9999 (Int32.toNatClampNeg (x3 + (4 : Int32)))), .int (M.1 9999 (Int32.toNatClampNeg (x3 + (3 : Int32)))), .int (M.1 9999 (Int32.toNatClampNeg (x3 + (2 : Int32)))), .int (M.1 9999 (Int32.toNatClampNeg (x3 + (1 : Int32)))), .ref 0], gm M)) (b := (ib (Int32.toNatClampNeg (M.1 9998 0)) (x3 + (6 : Int32)) && true)) rfl (and_i hb192_5 rfl) ?_
                                            obtain ⟨r193, M194, he195, hs⟩ := ob_some hs
                                            refine Rc.callV (i := 96) (mid' := 1119) (av := [.int (M.1 9999 (Int32.toNatClampNeg (x3 + (1 : Int32)))), .int (M.1 9999 (Int32.toNatClampNeg (x3 + (2 : Int32)))), .int (M.1 9999 (Int32.toNatClampNeg (x3 + (3 : Int32)))), .int (M.1 9999 (Int32.toNatClampNeg (x3 + (4 : Int32)))), .int (M.1 9999 (Int32.toNatClampNeg (x3 + (5 : Int32)))), .int (M.1 9999 (Int32.toNatClampNeg (x3 + (6 : Int32))))]) (rest := []) (v := some (.long r193)) (M1 := gm M194) (a := 0) rfl rfl rfl cw_1119 rfl (Nat.le_of_ble_eq_true rfl) rfl (Nat.le_of_ble_eq_true rfl) (qfr_spread_ok _ (by omega) he195) ?_
                                            obtain ⟨hb196, hs⟩ := ck_some hs
                                            obtain ⟨hb196_0, hb196⟩ := and_t hb196
                                            obtain ⟨hb196_1, hb196⟩ := and_t hb196
                                            obtain ⟨hb196_2, hb196⟩ := and_t hb196
                                            obtain ⟨hb196_3, hb196⟩ := and_t hb196
                                            obtain ⟨hb196_4, hb196⟩ := and_t hb196
                                            obtain ⟨hb196_5, hb196⟩ := and_t hb196
                                            refine Rc.goL mt_1400 6 (f2 := (967, [.retAddr 1, .ref 0, .ref 280, .int x3], [.retAddr 1, .int (M194.1 9999 (Int32.toNatClampNeg (x3 + (1 : Int32)))), .ref 280, .long r193], gm M194)) (b := (ib (Int32.toNatClampNeg (M194.1 9998 0)) (x3 + (1 : Int32)) && true)) rfl (and_i hb196_0 rfl) ?_
                                            refine Rc.goL mt_1400 6 (f2 := (974, [.retAddr 1, .ref 0, .ref 280, .int x3], [.int (3 : Int32), .int x3, .retAddr 1, .int (M194.1 9999 (Int32.toNatClampNeg (x3 + (2 : Int32)))), .int (M194.1 9999 (Int32.toNatClampNeg (x3 + (1 : Int32)))), .ref 280, .long r193], gm M194)) (b := (ib (Int32.toNatClampNeg (M194.1 9998 0)) (x3 + (2 : Int32)) && true)) rfl (and_i hb196_1 rfl) ?_
                                            refine Rc.goL mt_1400 6 (f2 := (981, [.retAddr 1, .ref 0, .ref 280, .int x3], [.int (M194.1 9999 (Int32.toNatClampNeg (x3 + (4 : Int32)))), .int (M194.1 9999 (Int32.toNatClampNeg (x3 + (3 : Int32)))), .int (M194.1 9999 (Int32.toNatClampNeg (x3 + (2 : Int32)))), .int (M194.1 9999 (Int32.toNatClampNeg (x3 + (1 : Int32)))), .ref 280, .long r193], gm M194)) (b := (ib (Int32.toNatClampNeg (M194.1 9998 0)) (x3 + (3 : Int32)) && (ib (Int32.toNatClampNeg (M194.1 9998 0)) (x3 + (4 : Int32)) && true))) rfl (and_i hb196_2 (and_i hb196_3 rfl)) ?_
                                            refine Rc.goL mt_1400 6 (f2 := (988, [.retAddr 1, .ref 0, .ref 280, .int x3], [.int x3, .retAddr 1, .int (M194.1 9999 (Int32.toNatClampNeg (x3 + (5 : Int32)))), .int (M194.1 9999 (Int32.toNatClampNeg (x3 + (4 : Int32)))), .int (M194.1 9999 (Int32.toNatClampNeg (x3 + (3 : Int32)))), .int (M194.1 9999 (Int32.toNatClampNeg (x3 + (2 : Int32)))), .int (M194.1 9999 (Int32.toNatClampNeg (x3 + (1 : Int32)))), .ref 280, .long r193], gm M194)) (b := (ib (Int32.toNatClampNeg (M194.1 9998 0)) (x3 + (5 : Int32)) && true)) rfl (and_i hb196_4 rfl) ?_
                                            refine Rc.goL mt_1400 2 (f2 := (992, [.retAddr 1, .ref 0, .ref 280, .int x3], [.int (M194.1 9999 (Int32.toNatClampNeg (x3 + (6 : Int32)))), .int (M194.1 9999 (Int32.toNatClampNeg (x3 + (5 : Int32)))), .int (M194.1 9999 (Int32.toNatClampNeg (x3 + (4 : Int32)))), .int (M194.1 9999 (Int32.toNatClampNeg (x3 + (3 : Int32)))), .int (M194.1 9999 (Int32.toNatClampNeg (x3 + (2 : Int32)))), .int (M194.1 9999 (Int32.toNatClampNeg (x3 + (1 : Int32)))), .ref 280, .long r193], gm M194)) (b := (ib (Int32.toNatClampNeg (M194.1 9998 0)) (x3 + (6 : Int32)) && true)) rfl (and_i hb196_5 rfl) ?_
                                            obtain ⟨r197, M198, he199, hs⟩ := ob_some hs
                                            refine Rc.callV (i := 100) (mid' := 1267) (av := [.int (M194.1 9999 (Int32.toNatClampNeg (x3 + (1 : Int32)))), .int (M194.1 9999 (Int32.toNatClampNeg (x3 + (2 : Int32)))), .int (M194.1 9999 (Int32.toNatClampNeg (x3 + (3 : Int32)))), .int (M194.1 9999 (Int32.toNatClampNeg (x3 + (4 : Int32)))), .int (M194.1 9999 (Int32.toNatClampNeg (x3 + (5 : Int32)))), .int (M194.1 9999 (Int32.toNatClampNeg (x3 + (6 : Int32))))]) (rest := [.long r193]) (v := some (.long r197)) (M1 := gm M198) (a := 280) rfl rfl rfl cw_1267 rfl (Nat.le_of_ble_eq_true rfl) rfl (Nat.le_of_ble_eq_true rfl) (qmd_spread_ok _ (by omega) he199) ?_
                                            by_cases h200 : (lg_cmp r193 r197) = 0
                                            · rw [if_pos h200] at hs
                                              refine Rc.goL mt_1400 1 (f2 := (if (lg_cmp r193 r197) = 0 then 1428 else 999, [.retAddr 1, .ref 0, .ref 280, .int x3], [], gm M198)) (b := true) rfl rfl ?_
                                              rw [if_pos h200]
                                              refine Rc.goL mt_1400 1 (f2 := (18, [.retAddr 1, .ref 0, .ref 280, .int (x3 + (8 : Int32))], [], gm M198)) (b := true) rfl rfl ?_
                                              refine Rc.less (ls2 := [.retAddr 1, .ref 0, .ref 280, .int (x3 + (8 : Int32))]) (by refine ⟨Or.inr rfl, Or.inr rfl, Or.inr rfl, Or.inr rfl, trivial⟩) ?_
                                              exact ih (x3 + (8 : Int32)) _ _ _ hs
                                            · rw [if_neg h200] at hs
                                              refine Rc.goL mt_1400 1 (f2 := (if (lg_cmp r193 r197) = 0 then 1428 else 999, [.retAddr 1, .ref 0, .ref 280, .int x3], [], gm M198)) (b := true) rfl rfl ?_
                                              rw [if_neg h200]
                                              refine Rc.goL mt_1400 0 (f2 := (1000, [.retAddr 1, .ref 0, .ref 280, .int x3], [.int (0 : Int32)], gm M198)) (b := true) rfl rfl ?_
                                              obtain ⟨e1, e2⟩ := some_p hs; subst e1; subst e2
                                              exact Rc.ret (v := some (.int (0 : Int32))) rfl rfl
                                          · rw [if_neg h201] at hs
                                            by_cases h211 : ((M.1 9999 (Int32.toNatClampNeg x3)) &&& (63 : Int32)) = (19 : Int32)
                                            · rw [if_pos h211] at hs
                                              rw [show swl [(0, 188), (1, 211), (2, 234), (3, 277), (4, 310), (5, 333), (6, 396), (7, 419), (8, 462), (9, 495), (10, 528), (11, 562), (12, 649), (13, 703), (14, 773), (15, 806), (16, 829), (17, 882), (18, 925), (19, 1001), (20, 1024), (21, 1048), (22, 1102), (23, 1125), (24, 1158), (25, 1181), (26, 1224), (27, 1248), (28, 1261), (29, 1274), (30, 1297), (31, 1346), (32, 1359), (33, 1372), (34, 1405)] 1428 ((M.1 9999 (Int32.toNatClampNeg x3)) &&& (63 : Int32)) = 1001 by first | (simp only [swl, if_pos h211]; done) | (rw [h211]; decide)]
                                              obtain ⟨hb202, hs⟩ := ck_some hs
                                              refine Rc.goL mt_1400 5 (f2 := (1007, [.retAddr 1, .ref 0, .ref 280, .int x3], [.int (M.1 9999 (Int32.toNatClampNeg (x3 + (1 : Int32)))), .ref 0], gm M)) (b := (ib (Int32.toNatClampNeg (M.1 9998 0)) (x3 + (1 : Int32)) && true)) rfl hb202 ?_
                                              obtain ⟨r203, M204, he205, hs⟩ := ob_some hs
                                              refine Rc.callV (i := 101) (mid' := 1120) (av := [.int (M.1 9999 (Int32.toNatClampNeg (x3 + (1 : Int32))))]) (rest := []) (v := some (.int r203)) (M1 := gm M204) (a := 0) rfl rfl rfl cw_1120 rfl (Nat.le_of_ble_eq_true rfl) rfl (Nat.le_of_ble_eq_true rfl) (qfr_share_ok _ (by omega) he205) ?_
                                              obtain ⟨hb206, hs⟩ := ck_some hs
                                              refine Rc.goL mt_1400 5 (f2 := (1016, [.retAddr 1, .ref 0, .ref 280, .int x3], [.int (M204.1 9999 (Int32.toNatClampNeg (x3 + (1 : Int32)))), .ref 280, .int r203], gm M204)) (b := (ib (Int32.toNatClampNeg (M204.1 9998 0)) (x3 + (1 : Int32)) && true)) rfl hb206 ?_
                                              obtain ⟨r207, M208, he209, hs⟩ := ob_some hs
                                              refine Rc.callV (i := 104) (mid' := 1269) (av := [.int (M204.1 9999 (Int32.toNatClampNeg (x3 + (1 : Int32))))]) (rest := [.int r203]) (v := some (.int r207)) (M1 := gm M208) (a := 280) rfl rfl rfl cw_1269 rfl (Nat.le_of_ble_eq_true rfl) rfl (Nat.le_of_ble_eq_true rfl) (qmd_share_ok _ (by omega) he209) ?_
                                              by_cases h210 : r203 = r207
                                              · rw [if_pos h210] at hs
                                                refine Rc.goL mt_1400 0 (f2 := (if r203 = r207 then 1428 else 1022, [.retAddr 1, .ref 0, .ref 280, .int x3], [], gm M208)) (b := true) rfl rfl ?_
                                                rw [if_pos h210]
                                                refine Rc.goL mt_1400 1 (f2 := (18, [.retAddr 1, .ref 0, .ref 280, .int (x3 + (8 : Int32))], [], gm M208)) (b := true) rfl rfl ?_
                                                refine Rc.less (ls2 := [.retAddr 1, .ref 0, .ref 280, .int (x3 + (8 : Int32))]) (by refine ⟨Or.inr rfl, Or.inr rfl, Or.inr rfl, Or.inr rfl, trivial⟩) ?_
                                                exact ih (x3 + (8 : Int32)) _ _ _ hs
                                              · rw [if_neg h210] at hs
                                                refine Rc.goL mt_1400 0 (f2 := (if r203 = r207 then 1428 else 1022, [.retAddr 1, .ref 0, .ref 280, .int x3], [], gm M208)) (b := true) rfl rfl ?_
                                                rw [if_neg h210]
                                                refine Rc.goL mt_1400 0 (f2 := (1023, [.retAddr 1, .ref 0, .ref 280, .int x3], [.int (0 : Int32)], gm M208)) (b := true) rfl rfl ?_
                                                obtain ⟨e1, e2⟩ := some_p hs; subst e1; subst e2
                                                exact Rc.ret (v := some (.int (0 : Int32))) rfl rfl
                                            · rw [if_neg h211] at hs
                                              by_cases h221 : ((M.1 9999 (Int32.toNatClampNeg x3)) &&& (63 : Int32)) = (20 : Int32)
                                              · rw [if_pos h221] at hs
                                                rw [show swl [(0, 188), (1, 211), (2, 234), (3, 277), (4, 310), (5, 333), (6, 396), (7, 419), (8, 462), (9, 495), (10, 528), (11, 562), (12, 649), (13, 703), (14, 773), (15, 806), (16, 829), (17, 882), (18, 925), (19, 1001), (20, 1024), (21, 1048), (22, 1102), (23, 1125), (24, 1158), (25, 1181), (26, 1224), (27, 1248), (28, 1261), (29, 1274), (30, 1297), (31, 1346), (32, 1359), (33, 1372), (34, 1405)] 1428 ((M.1 9999 (Int32.toNatClampNeg x3)) &&& (63 : Int32)) = 1024 by first | (simp only [swl, if_pos h221]; done) | (rw [h221]; decide)]
                                                obtain ⟨hb212, hs⟩ := ck_some hs
                                                refine Rc.goL mt_1400 5 (f2 := (1030, [.retAddr 1, .ref 0, .ref 280, .int x3], [.int (M.1 9999 (Int32.toNatClampNeg (x3 + (1 : Int32)))), .ref 0], gm M)) (b := (ib (Int32.toNatClampNeg (M.1 9998 0)) (x3 + (1 : Int32)) && true)) rfl hb212 ?_
                                                obtain ⟨r213, M214, he215, hs⟩ := ob_some hs
                                                refine Rc.callV (i := 105) (mid' := 1121) (av := [.int (M.1 9999 (Int32.toNatClampNeg (x3 + (1 : Int32))))]) (rest := []) (v := some (.long r213)) (M1 := gm M214) (a := 0) rfl rfl rfl cw_1121 rfl (Nat.le_of_ble_eq_true rfl) rfl (Nat.le_of_ble_eq_true rfl) (qfr_judge_ok _ (by omega) he215) ?_
                                                obtain ⟨hb216, hs⟩ := ck_some hs
                                                refine Rc.goL mt_1400 5 (f2 := (1039, [.retAddr 1, .ref 0, .ref 280, .int x3], [.int (M214.1 9999 (Int32.toNatClampNeg (x3 + (1 : Int32)))), .ref 280, .long r213], gm M214)) (b := (ib (Int32.toNatClampNeg (M214.1 9998 0)) (x3 + (1 : Int32)) && true)) rfl hb216 ?_
                                                obtain ⟨r217, M218, he219, hs⟩ := ob_some hs
                                                refine Rc.callV (i := 109) (mid' := 1270) (av := [.int (M214.1 9999 (Int32.toNatClampNeg (x3 + (1 : Int32))))]) (rest := [.long r213]) (v := some (.long r217)) (M1 := gm M218) (a := 280) rfl rfl rfl cw_1270 rfl (Nat.le_of_ble_eq_true rfl) rfl (Nat.le_of_ble_eq_true rfl) (qmd_judge_ok _ (by omega) he219) ?_
                                                by_cases h220 : (lg_cmp r213 r217) = 0
                                                · rw [if_pos h220] at hs
                                                  refine Rc.goL mt_1400 1 (f2 := (if (lg_cmp r213 r217) = 0 then 1428 else 1046, [.retAddr 1, .ref 0, .ref 280, .int x3], [], gm M218)) (b := true) rfl rfl ?_
                                                  rw [if_pos h220]
                                                  refine Rc.goL mt_1400 1 (f2 := (18, [.retAddr 1, .ref 0, .ref 280, .int (x3 + (8 : Int32))], [], gm M218)) (b := true) rfl rfl ?_
                                                  refine Rc.less (ls2 := [.retAddr 1, .ref 0, .ref 280, .int (x3 + (8 : Int32))]) (by refine ⟨Or.inr rfl, Or.inr rfl, Or.inr rfl, Or.inr rfl, trivial⟩) ?_
                                                  exact ih (x3 + (8 : Int32)) _ _ _ hs
                                                · rw [if_neg h220] at hs
                                                  refine Rc.goL mt_1400 1 (f2 := (if (lg_cmp r213 r217) = 0 then 1428 else 1046, [.retAddr 1, .ref 0, .ref 280, .int x3], [], gm M218)) (b := true) rfl rfl ?_
                                                  rw [if_neg h220]
                                                  refine Rc.goL mt_1400 0 (f2 := (1047, [.retAddr 1, .ref 0, .ref 280, .int x3], [.int (0 : Int32)], gm M218)) (b := true) rfl rfl ?_
                                                  obtain ⟨e1, e2⟩ := some_p hs; subst e1; subst e2
                                                  exact Rc.ret (v := some (.int (0 : Int32))) rfl rfl
                                              · rw [if_neg h221] at hs
                                                by_cases h231 : ((M.1 9999 (Int32.toNatClampNeg x3)) &&& (63 : Int32)) = (21 : Int32)
                                                · rw [if_pos h231] at hs
                                                  rw [show swl [(0, 188), (1, 211), (2, 234), (3, 277), (4, 310), (5, 333), (6, 396), (7, 419), (8, 462), (9, 495), (10, 528), (11, 562), (12, 649), (13, 703), (14, 773), (15, 806), (16, 829), (17, 882), (18, 925), (19, 1001), (20, 1024), (21, 1048), (22, 1102), (23, 1125), (24, 1158), (25, 1181), (26, 1224), (27, 1248), (28, 1261), (29, 1274), (30, 1297), (31, 1346), (32, 1359), (33, 1372), (34, 1405)] 1428 ((M.1 9999 (Int32.toNatClampNeg x3)) &&& (63 : Int32)) = 1048 by first | (simp only [swl, if_pos h231]; done) | (rw [h231]; decide)]
                                                  obtain ⟨hb222, hs⟩ := ck_some hs
                                                  obtain ⟨hb222_0, hb222⟩ := and_t hb222
                                                  obtain ⟨hb222_1, hb222⟩ := and_t hb222
                                                  obtain ⟨hb222_2, hb222⟩ := and_t hb222
                                                  obtain ⟨hb222_3, hb222⟩ := and_t hb222
                                                  refine Rc.goL mt_1400 6 (f2 := (1055, [.retAddr 1, .ref 0, .ref 280, .int x3], [.retAddr 1, .int (M.1 9999 (Int32.toNatClampNeg (x3 + (1 : Int32)))), .ref 0], gm M)) (b := (ib (Int32.toNatClampNeg (M.1 9998 0)) (x3 + (1 : Int32)) && true)) rfl (and_i hb222_0 rfl) ?_
                                                  refine Rc.goL mt_1400 6 (f2 := (1062, [.retAddr 1, .ref 0, .ref 280, .int x3], [.int (3 : Int32), .int x3, .retAddr 1, .int (M.1 9999 (Int32.toNatClampNeg (x3 + (2 : Int32)))), .int (M.1 9999 (Int32.toNatClampNeg (x3 + (1 : Int32)))), .ref 0], gm M)) (b := (ib (Int32.toNatClampNeg (M.1 9998 0)) (x3 + (2 : Int32)) && true)) rfl (and_i hb222_1 rfl) ?_
                                                  refine Rc.goL mt_1400 6 (f2 := (1069, [.retAddr 1, .ref 0, .ref 280, .int x3], [.int (M.1 9999 (Int32.toNatClampNeg (x3 + (4 : Int32)))), .int (M.1 9999 (Int32.toNatClampNeg (x3 + (3 : Int32)))), .int (M.1 9999 (Int32.toNatClampNeg (x3 + (2 : Int32)))), .int (M.1 9999 (Int32.toNatClampNeg (x3 + (1 : Int32)))), .ref 0], gm M)) (b := (ib (Int32.toNatClampNeg (M.1 9998 0)) (x3 + (3 : Int32)) && (ib (Int32.toNatClampNeg (M.1 9998 0)) (x3 + (4 : Int32)) && true))) rfl (and_i hb222_2 (and_i hb222_3 rfl)) ?_
                                                  obtain ⟨r223, M224, he225, hs⟩ := ob_some hs
                                                  refine Rc.callV (i := 110) (mid' := 1122) (av := [.int (M.1 9999 (Int32.toNatClampNeg (x3 + (1 : Int32)))), .int (M.1 9999 (Int32.toNatClampNeg (x3 + (2 : Int32)))), .int (M.1 9999 (Int32.toNatClampNeg (x3 + (3 : Int32)))), .int (M.1 9999 (Int32.toNatClampNeg (x3 + (4 : Int32))))]) (rest := []) (v := some (.long r223)) (M1 := gm M224) (a := 0) rfl rfl rfl cw_1122 rfl (Nat.le_of_ble_eq_true rfl) rfl (Nat.le_of_ble_eq_true rfl) (qfr_beside_ok _ (by omega) he225) ?_
                                                  obtain ⟨hb226, hs⟩ := ck_some hs
                                                  obtain ⟨hb226_0, hb226⟩ := and_t hb226
                                                  obtain ⟨hb226_1, hb226⟩ := and_t hb226
                                                  obtain ⟨hb226_2, hb226⟩ := and_t hb226
                                                  obtain ⟨hb226_3, hb226⟩ := and_t hb226
                                                  refine Rc.goL mt_1400 6 (f2 := (1079, [.retAddr 1, .ref 0, .ref 280, .int x3], [.retAddr 1, .int (M224.1 9999 (Int32.toNatClampNeg (x3 + (1 : Int32)))), .ref 280, .long r223], gm M224)) (b := (ib (Int32.toNatClampNeg (M224.1 9998 0)) (x3 + (1 : Int32)) && true)) rfl (and_i hb226_0 rfl) ?_
                                                  refine Rc.goL mt_1400 6 (f2 := (1086, [.retAddr 1, .ref 0, .ref 280, .int x3], [.int (3 : Int32), .int x3, .retAddr 1, .int (M224.1 9999 (Int32.toNatClampNeg (x3 + (2 : Int32)))), .int (M224.1 9999 (Int32.toNatClampNeg (x3 + (1 : Int32)))), .ref 280, .long r223], gm M224)) (b := (ib (Int32.toNatClampNeg (M224.1 9998 0)) (x3 + (2 : Int32)) && true)) rfl (and_i hb226_1 rfl) ?_
                                                  refine Rc.goL mt_1400 6 (f2 := (1093, [.retAddr 1, .ref 0, .ref 280, .int x3], [.int (M224.1 9999 (Int32.toNatClampNeg (x3 + (4 : Int32)))), .int (M224.1 9999 (Int32.toNatClampNeg (x3 + (3 : Int32)))), .int (M224.1 9999 (Int32.toNatClampNeg (x3 + (2 : Int32)))), .int (M224.1 9999 (Int32.toNatClampNeg (x3 + (1 : Int32)))), .ref 280, .long r223], gm M224)) (b := (ib (Int32.toNatClampNeg (M224.1 9998 0)) (x3 + (3 : Int32)) && (ib (Int32.toNatClampNeg (M224.1 9998 0)) (x3 + (4 : Int32)) && true))) rfl (and_i hb226_2 (and_i hb226_3 rfl)) ?_
                                                  obtain ⟨r227, M228, he229, hs⟩ := ob_some hs
                                                  refine Rc.callV (i := 113) (mid' := 1271) (av := [.int (M224.1 9999 (Int32.toNatClampNeg (x3 + (1 : Int32)))), .int (M224.1 9999 (Int32.toNatClampNeg (x3 + (2 : Int32)))), .int (M224.1 9999 (Int32.toNatClampNeg (x3 + (3 : Int32)))), .int (M224.1 9999 (Int32.toNatClampNeg (x3 + (4 : Int32))))]) (rest := [.long r223]) (v := some (.long r227)) (M1 := gm M228) (a := 280) rfl rfl rfl cw_1271 rfl (Nat.le_of_ble_eq_true rfl) rfl (Nat.le_of_ble_eq_true rfl) (qmd_beside_ok _ (by omega) he229) ?_
                                                  by_cases h230 : (lg_cmp r223 r227) = 0
                                                  · rw [if_pos h230] at hs
                                                    refine Rc.goL mt_1400 1 (f2 := (if (lg_cmp r223 r227) = 0 then 1428 else 1100, [.retAddr 1, .ref 0, .ref 280, .int x3], [], gm M228)) (b := true) rfl rfl ?_
                                                    rw [if_pos h230]
                                                    refine Rc.goL mt_1400 1 (f2 := (18, [.retAddr 1, .ref 0, .ref 280, .int (x3 + (8 : Int32))], [], gm M228)) (b := true) rfl rfl ?_
                                                    refine Rc.less (ls2 := [.retAddr 1, .ref 0, .ref 280, .int (x3 + (8 : Int32))]) (by refine ⟨Or.inr rfl, Or.inr rfl, Or.inr rfl, Or.inr rfl, trivial⟩) ?_
                                                    exact ih (x3 + (8 : Int32)) _ _ _ hs
                                                  · rw [if_neg h230] at hs
                                                    refine Rc.goL mt_1400 1 (f2 := (if (lg_cmp r223 r227) = 0 then 1428 else 1100, [.retAddr 1, .ref 0, .ref 280, .int x3], [], gm M228)) (b := true) rfl rfl ?_
                                                    rw [if_neg h230]
                                                    refine Rc.goL mt_1400 0 (f2 := (1101, [.retAddr 1, .ref 0, .ref 280, .int x3], [.int (0 : Int32)], gm M228)) (b := true) rfl rfl ?_
                                                    obtain ⟨e1, e2⟩ := some_p hs; subst e1; subst e2
                                                    exact Rc.ret (v := some (.int (0 : Int32))) rfl rfl
                                                · rw [if_neg h231] at hs
                                                  by_cases h241 : ((M.1 9999 (Int32.toNatClampNeg x3)) &&& (63 : Int32)) = (22 : Int32)
                                                  · rw [if_pos h241] at hs
                                                    rw [show swl [(0, 188), (1, 211), (2, 234), (3, 277), (4, 310), (5, 333), (6, 396), (7, 419), (8, 462), (9, 495), (10, 528), (11, 562), (12, 649), (13, 703), (14, 773), (15, 806), (16, 829), (17, 882), (18, 925), (19, 1001), (20, 1024), (21, 1048), (22, 1102), (23, 1125), (24, 1158), (25, 1181), (26, 1224), (27, 1248), (28, 1261), (29, 1274), (30, 1297), (31, 1346), (32, 1359), (33, 1372), (34, 1405)] 1428 ((M.1 9999 (Int32.toNatClampNeg x3)) &&& (63 : Int32)) = 1102 by first | (simp only [swl, if_pos h241]; done) | (rw [h241]; decide)]
                                                    obtain ⟨hb232, hs⟩ := ck_some hs
                                                    refine Rc.goL mt_1400 5 (f2 := (1108, [.retAddr 1, .ref 0, .ref 280, .int x3], [.int (M.1 9999 (Int32.toNatClampNeg (x3 + (1 : Int32)))), .ref 0], gm M)) (b := (ib (Int32.toNatClampNeg (M.1 9998 0)) (x3 + (1 : Int32)) && true)) rfl hb232 ?_
                                                    obtain ⟨r233, M234, he235, hs⟩ := ob_some hs
                                                    refine Rc.callV (i := 114) (mid' := 1123) (av := [.int (M.1 9999 (Int32.toNatClampNeg (x3 + (1 : Int32))))]) (rest := []) (v := some (.int r233)) (M1 := gm M234) (a := 0) rfl rfl rfl cw_1123 rfl (Nat.le_of_ble_eq_true rfl) rfl (Nat.le_of_ble_eq_true rfl) (qfr_lot_ok _ (by omega) he235) ?_
                                                    obtain ⟨hb236, hs⟩ := ck_some hs
                                                    refine Rc.goL mt_1400 5 (f2 := (1117, [.retAddr 1, .ref 0, .ref 280, .int x3], [.int (M234.1 9999 (Int32.toNatClampNeg (x3 + (1 : Int32)))), .ref 280, .int r233], gm M234)) (b := (ib (Int32.toNatClampNeg (M234.1 9998 0)) (x3 + (1 : Int32)) && true)) rfl hb236 ?_
                                                    obtain ⟨r237, M238, he239, hs⟩ := ob_some hs
                                                    refine Rc.callV (i := 117) (mid' := 1272) (av := [.int (M234.1 9999 (Int32.toNatClampNeg (x3 + (1 : Int32))))]) (rest := [.int r233]) (v := some (.int r237)) (M1 := gm M238) (a := 280) rfl rfl rfl cw_1272 rfl (Nat.le_of_ble_eq_true rfl) rfl (Nat.le_of_ble_eq_true rfl) (qmd_lot_ok _ (by omega) he239) ?_
                                                    by_cases h240 : r233 = r237
                                                    · rw [if_pos h240] at hs
                                                      refine Rc.goL mt_1400 0 (f2 := (if r233 = r237 then 1428 else 1123, [.retAddr 1, .ref 0, .ref 280, .int x3], [], gm M238)) (b := true) rfl rfl ?_
                                                      rw [if_pos h240]
                                                      refine Rc.goL mt_1400 1 (f2 := (18, [.retAddr 1, .ref 0, .ref 280, .int (x3 + (8 : Int32))], [], gm M238)) (b := true) rfl rfl ?_
                                                      refine Rc.less (ls2 := [.retAddr 1, .ref 0, .ref 280, .int (x3 + (8 : Int32))]) (by refine ⟨Or.inr rfl, Or.inr rfl, Or.inr rfl, Or.inr rfl, trivial⟩) ?_
                                                      exact ih (x3 + (8 : Int32)) _ _ _ hs
                                                    · rw [if_neg h240] at hs
                                                      refine Rc.goL mt_1400 0 (f2 := (if r233 = r237 then 1428 else 1123, [.retAddr 1, .ref 0, .ref 280, .int x3], [], gm M238)) (b := true) rfl rfl ?_
                                                      rw [if_neg h240]
                                                      refine Rc.goL mt_1400 0 (f2 := (1124, [.retAddr 1, .ref 0, .ref 280, .int x3], [.int (0 : Int32)], gm M238)) (b := true) rfl rfl ?_
                                                      obtain ⟨e1, e2⟩ := some_p hs; subst e1; subst e2
                                                      exact Rc.ret (v := some (.int (0 : Int32))) rfl rfl
                                                  · rw [if_neg h241] at hs
                                                    by_cases h251 : ((M.1 9999 (Int32.toNatClampNeg x3)) &&& (63 : Int32)) = (23 : Int32)
                                                    · rw [if_pos h251] at hs
                                                      rw [show swl [(0, 188), (1, 211), (2, 234), (3, 277), (4, 310), (5, 333), (6, 396), (7, 419), (8, 462), (9, 495), (10, 528), (11, 562), (12, 649), (13, 703), (14, 773), (15, 806), (16, 829), (17, 882), (18, 925), (19, 1001), (20, 1024), (21, 1048), (22, 1102), (23, 1125), (24, 1158), (25, 1181), (26, 1224), (27, 1248), (28, 1261), (29, 1274), (30, 1297), (31, 1346), (32, 1359), (33, 1372), (34, 1405)] 1428 ((M.1 9999 (Int32.toNatClampNeg x3)) &&& (63 : Int32)) = 1125 by first | (simp only [swl, if_pos h251]; done) | (rw [h251]; decide)]
                                                      obtain ⟨hb242, hs⟩ := ck_some hs
                                                      obtain ⟨hb242_0, hb242⟩ := and_t hb242
                                                      obtain ⟨hb242_1, hb242⟩ := and_t hb242
                                                      refine Rc.goL mt_1400 6 (f2 := (1132, [.retAddr 1, .ref 0, .ref 280, .int x3], [.retAddr 1, .int (M.1 9999 (Int32.toNatClampNeg (x3 + (1 : Int32)))), .ref 0], gm M)) (b := (ib (Int32.toNatClampNeg (M.1 9998 0)) (x3 + (1 : Int32)) && true)) rfl (and_i hb242_0 rfl) ?_
                                                      refine Rc.goL mt_1400 3 (f2 := (1136, [.retAddr 1, .ref 0, .ref 280, .int x3], [.int (M.1 9999 (Int32.toNatClampNeg (x3 + (2 : Int32)))), .int (M.1 9999 (Int32.toNatClampNeg (x3 + (1 : Int32)))), .ref 0], gm M)) (b := (ib (Int32.toNatClampNeg (M.1 9998 0)) (x3 + (2 : Int32)) && true)) rfl (and_i hb242_1 rfl) ?_
                                                      obtain ⟨r243, M244, he245, hs⟩ := ob_some hs
                                                      refine Rc.callV (i := 118) (mid' := 1124) (av := [.int (M.1 9999 (Int32.toNatClampNeg (x3 + (1 : Int32)))), .int (M.1 9999 (Int32.toNatClampNeg (x3 + (2 : Int32))))]) (rest := []) (v := some (.int r243)) (M1 := gm M244) (a := 0) rfl rfl rfl cw_1124 rfl (Nat.le_of_ble_eq_true rfl) rfl (Nat.le_of_ble_eq_true rfl) (qfr_told_ok _ (by omega) he245) ?_
                                                      obtain ⟨hb246, hs⟩ := ck_some hs
                                                      obtain ⟨hb246_0, hb246⟩ := and_t hb246
                                                      obtain ⟨hb246_1, hb246⟩ := and_t hb246
                                                      refine Rc.goL mt_1400 6 (f2 := (1146, [.retAddr 1, .ref 0, .ref 280, .int x3], [.retAddr 1, .int (M244.1 9999 (Int32.toNatClampNeg (x3 + (1 : Int32)))), .ref 280, .int r243], gm M244)) (b := (ib (Int32.toNatClampNeg (M244.1 9998 0)) (x3 + (1 : Int32)) && true)) rfl (and_i hb246_0 rfl) ?_
                                                      refine Rc.goL mt_1400 3 (f2 := (1150, [.retAddr 1, .ref 0, .ref 280, .int x3], [.int (M244.1 9999 (Int32.toNatClampNeg (x3 + (2 : Int32)))), .int (M244.1 9999 (Int32.toNatClampNeg (x3 + (1 : Int32)))), .ref 280, .int r243], gm M244)) (b := (ib (Int32.toNatClampNeg (M244.1 9998 0)) (x3 + (2 : Int32)) && true)) rfl (and_i hb246_1 rfl) ?_
                                                      obtain ⟨r247, M248, he249, hs⟩ := ob_some hs
                                                      refine Rc.callV (i := 121) (mid' := 1274) (av := [.int (M244.1 9999 (Int32.toNatClampNeg (x3 + (1 : Int32)))), .int (M244.1 9999 (Int32.toNatClampNeg (x3 + (2 : Int32))))]) (rest := [.int r243]) (v := some (.int r247)) (M1 := gm M248) (a := 280) rfl rfl rfl cw_1274 rfl (Nat.le_of_ble_eq_true rfl) rfl (Nat.le_of_ble_eq_true rfl) (qmd_told_ok _ (by omega) he249) ?_
                                                      by_cases h250 : r243 = r247
                                                      · rw [if_pos h250] at hs
                                                        refine Rc.goL mt_1400 0 (f2 := (if r243 = r247 then 1428 else 1156, [.retAddr 1, .ref 0, .ref 280, .int x3], [], gm M248)) (b := true) rfl rfl ?_
                                                        rw [if_pos h250]
                                                        refine Rc.goL mt_1400 1 (f2 := (18, [.retAddr 1, .ref 0, .ref 280, .int (x3 + (8 : Int32))], [], gm M248)) (b := true) rfl rfl ?_
                                                        refine Rc.less (ls2 := [.retAddr 1, .ref 0, .ref 280, .int (x3 + (8 : Int32))]) (by refine ⟨Or.inr rfl, Or.inr rfl, Or.inr rfl, Or.inr rfl, trivial⟩) ?_
                                                        exact ih (x3 + (8 : Int32)) _ _ _ hs
                                                      · rw [if_neg h250] at hs
                                                        refine Rc.goL mt_1400 0 (f2 := (if r243 = r247 then 1428 else 1156, [.retAddr 1, .ref 0, .ref 280, .int x3], [], gm M248)) (b := true) rfl rfl ?_
                                                        rw [if_neg h250]
                                                        refine Rc.goL mt_1400 0 (f2 := (1157, [.retAddr 1, .ref 0, .ref 280, .int x3], [.int (0 : Int32)], gm M248)) (b := true) rfl rfl ?_
                                                        obtain ⟨e1, e2⟩ := some_p hs; subst e1; subst e2
                                                        exact Rc.ret (v := some (.int (0 : Int32))) rfl rfl
                                                    · rw [if_neg h251] at hs
                                                      by_cases h261 : ((M.1 9999 (Int32.toNatClampNeg x3)) &&& (63 : Int32)) = (24 : Int32)
                                                      · rw [if_pos h261] at hs
                                                        rw [show swl [(0, 188), (1, 211), (2, 234), (3, 277), (4, 310), (5, 333), (6, 396), (7, 419), (8, 462), (9, 495), (10, 528), (11, 562), (12, 649), (13, 703), (14, 773), (15, 806), (16, 829), (17, 882), (18, 925), (19, 1001), (20, 1024), (21, 1048), (22, 1102), (23, 1125), (24, 1158), (25, 1181), (26, 1224), (27, 1248), (28, 1261), (29, 1274), (30, 1297), (31, 1346), (32, 1359), (33, 1372), (34, 1405)] 1428 ((M.1 9999 (Int32.toNatClampNeg x3)) &&& (63 : Int32)) = 1158 by first | (simp only [swl, if_pos h261]; done) | (rw [h261]; decide)]
                                                        obtain ⟨hb252, hs⟩ := ck_some hs
                                                        refine Rc.goL mt_1400 5 (f2 := (1164, [.retAddr 1, .ref 0, .ref 280, .int x3], [.int (M.1 9999 (Int32.toNatClampNeg (x3 + (1 : Int32)))), .ref 0], gm M)) (b := (ib (Int32.toNatClampNeg (M.1 9998 0)) (x3 + (1 : Int32)) && true)) rfl hb252 ?_
                                                        obtain ⟨r253, M254, he255, hs⟩ := ob_some hs
                                                        refine Rc.callV (i := 122) (mid' := 1125) (av := [.int (M.1 9999 (Int32.toNatClampNeg (x3 + (1 : Int32))))]) (rest := []) (v := some (.int r253)) (M1 := gm M254) (a := 0) rfl rfl rfl cw_1125 rfl (Nat.le_of_ble_eq_true rfl) rfl (Nat.le_of_ble_eq_true rfl) (qfr_is_ok _ (by omega) he255) ?_
                                                        obtain ⟨hb256, hs⟩ := ck_some hs
                                                        refine Rc.goL mt_1400 5 (f2 := (1173, [.retAddr 1, .ref 0, .ref 280, .int x3], [.int (M254.1 9999 (Int32.toNatClampNeg (x3 + (1 : Int32)))), .ref 280, .int r253], gm M254)) (b := (ib (Int32.toNatClampNeg (M254.1 9998 0)) (x3 + (1 : Int32)) && true)) rfl hb256 ?_
                                                        obtain ⟨r257, M258, he259, hs⟩ := ob_some hs
                                                        refine Rc.callV (i := 125) (mid' := 1276) (av := [.int (M254.1 9999 (Int32.toNatClampNeg (x3 + (1 : Int32))))]) (rest := [.int r253]) (v := some (.int r257)) (M1 := gm M258) (a := 280) rfl rfl rfl cw_1276 rfl (Nat.le_of_ble_eq_true rfl) rfl (Nat.le_of_ble_eq_true rfl) (qmd_is_ok _ (by omega) he259) ?_
                                                        by_cases h260 : r253 = r257
                                                        · rw [if_pos h260] at hs
                                                          refine Rc.goL mt_1400 0 (f2 := (if r253 = r257 then 1428 else 1179, [.retAddr 1, .ref 0, .ref 280, .int x3], [], gm M258)) (b := true) rfl rfl ?_
                                                          rw [if_pos h260]
                                                          refine Rc.goL mt_1400 1 (f2 := (18, [.retAddr 1, .ref 0, .ref 280, .int (x3 + (8 : Int32))], [], gm M258)) (b := true) rfl rfl ?_
                                                          refine Rc.less (ls2 := [.retAddr 1, .ref 0, .ref 280, .int (x3 + (8 : Int32))]) (by refine ⟨Or.inr rfl, Or.inr rfl, Or.inr rfl, Or.inr rfl, trivial⟩) ?_
                                                          exact ih (x3 + (8 : Int32)) _ _ _ hs
                                                        · rw [if_neg h260] at hs
                                                          refine Rc.goL mt_1400 0 (f2 := (if r253 = r257 then 1428 else 1179, [.retAddr 1, .ref 0, .ref 280, .int x3], [], gm M258)) (b := true) rfl rfl ?_
                                                          rw [if_neg h260]
                                                          refine Rc.goL mt_1400 0 (f2 := (1180, [.retAddr 1, .ref 0, .ref 280, .int x3], [.int (0 : Int32)], gm M258)) (b := true) rfl rfl ?_
                                                          obtain ⟨e1, e2⟩ := some_p hs; subst e1; subst e2
                                                          exact Rc.ret (v := some (.int (0 : Int32))) rfl rfl
                                                      · rw [if_neg h261] at hs
                                                        by_cases h271 : ((M.1 9999 (Int32.toNatClampNeg x3)) &&& (63 : Int32)) = (25 : Int32)
                                                        · rw [if_pos h271] at hs
                                                          rw [show swl [(0, 188), (1, 211), (2, 234), (3, 277), (4, 310), (5, 333), (6, 396), (7, 419), (8, 462), (9, 495), (10, 528), (11, 562), (12, 649), (13, 703), (14, 773), (15, 806), (16, 829), (17, 882), (18, 925), (19, 1001), (20, 1024), (21, 1048), (22, 1102), (23, 1125), (24, 1158), (25, 1181), (26, 1224), (27, 1248), (28, 1261), (29, 1274), (30, 1297), (31, 1346), (32, 1359), (33, 1372), (34, 1405)] 1428 ((M.1 9999 (Int32.toNatClampNeg x3)) &&& (63 : Int32)) = 1181 by first | (simp only [swl, if_pos h271]; done) | (rw [h271]; decide)]
                                                          obtain ⟨hb262, hs⟩ := ck_some hs
                                                          obtain ⟨hb262_0, hb262⟩ := and_t hb262
                                                          obtain ⟨hb262_1, hb262⟩ := and_t hb262
                                                          obtain ⟨hb262_2, hb262⟩ := and_t hb262
                                                          refine Rc.goL mt_1400 6 (f2 := (1188, [.retAddr 1, .ref 0, .ref 280, .int x3], [.retAddr 1, .int (M.1 9999 (Int32.toNatClampNeg (x3 + (1 : Int32)))), .ref 0], gm M)) (b := (ib (Int32.toNatClampNeg (M.1 9998 0)) (x3 + (1 : Int32)) && true)) rfl (and_i hb262_0 rfl) ?_
                                                          refine Rc.goL mt_1400 6 (f2 := (1195, [.retAddr 1, .ref 0, .ref 280, .int x3], [.int (3 : Int32), .int x3, .retAddr 1, .int (M.1 9999 (Int32.toNatClampNeg (x3 + (2 : Int32)))), .int (M.1 9999 (Int32.toNatClampNeg (x3 + (1 : Int32)))), .ref 0], gm M)) (b := (ib (Int32.toNatClampNeg (M.1 9998 0)) (x3 + (2 : Int32)) && true)) rfl (and_i hb262_1 rfl) ?_
                                                          refine Rc.goL mt_1400 1 (f2 := (1197, [.retAddr 1, .ref 0, .ref 280, .int x3], [.int (M.1 9999 (Int32.toNatClampNeg (x3 + (3 : Int32)))), .int (M.1 9999 (Int32.toNatClampNeg (x3 + (2 : Int32)))), .int (M.1 9999 (Int32.toNatClampNeg (x3 + (1 : Int32)))), .ref 0], gm M)) (b := (ib (Int32.toNatClampNeg (M.1 9998 0)) (x3 + (3 : Int32)) && true)) rfl (and_i hb262_2 rfl) ?_
                                                          obtain ⟨r263, M264, he265, hs⟩ := ob_some hs
                                                          refine Rc.callV (i := 126) (mid' := 1126) (av := [.int (M.1 9999 (Int32.toNatClampNeg (x3 + (1 : Int32)))), .int (M.1 9999 (Int32.toNatClampNeg (x3 + (2 : Int32)))), .int (M.1 9999 (Int32.toNatClampNeg (x3 + (3 : Int32))))]) (rest := []) (v := some (.int r263)) (M1 := gm M264) (a := 0) rfl rfl rfl cw_1126 rfl (Nat.le_of_ble_eq_true rfl) rfl (Nat.le_of_ble_eq_true rfl) (qfr_owes_ok _ (by omega) he265) ?_
                                                          obtain ⟨hb266, hs⟩ := ck_some hs
                                                          obtain ⟨hb266_0, hb266⟩ := and_t hb266
                                                          obtain ⟨hb266_1, hb266⟩ := and_t hb266
                                                          obtain ⟨hb266_2, hb266⟩ := and_t hb266
                                                          refine Rc.goL mt_1400 6 (f2 := (1207, [.retAddr 1, .ref 0, .ref 280, .int x3], [.retAddr 1, .int (M264.1 9999 (Int32.toNatClampNeg (x3 + (1 : Int32)))), .ref 280, .int r263], gm M264)) (b := (ib (Int32.toNatClampNeg (M264.1 9998 0)) (x3 + (1 : Int32)) && true)) rfl (and_i hb266_0 rfl) ?_
                                                          refine Rc.goL mt_1400 6 (f2 := (1214, [.retAddr 1, .ref 0, .ref 280, .int x3], [.int (3 : Int32), .int x3, .retAddr 1, .int (M264.1 9999 (Int32.toNatClampNeg (x3 + (2 : Int32)))), .int (M264.1 9999 (Int32.toNatClampNeg (x3 + (1 : Int32)))), .ref 280, .int r263], gm M264)) (b := (ib (Int32.toNatClampNeg (M264.1 9998 0)) (x3 + (2 : Int32)) && true)) rfl (and_i hb266_1 rfl) ?_
                                                          refine Rc.goL mt_1400 1 (f2 := (1216, [.retAddr 1, .ref 0, .ref 280, .int x3], [.int (M264.1 9999 (Int32.toNatClampNeg (x3 + (3 : Int32)))), .int (M264.1 9999 (Int32.toNatClampNeg (x3 + (2 : Int32)))), .int (M264.1 9999 (Int32.toNatClampNeg (x3 + (1 : Int32)))), .ref 280, .int r263], gm M264)) (b := (ib (Int32.toNatClampNeg (M264.1 9998 0)) (x3 + (3 : Int32)) && true)) rfl (and_i hb266_2 rfl) ?_
                                                          obtain ⟨r267, M268, he269, hs⟩ := ob_some hs
                                                          refine Rc.callV (i := 130) (mid' := 1278) (av := [.int (M264.1 9999 (Int32.toNatClampNeg (x3 + (1 : Int32)))), .int (M264.1 9999 (Int32.toNatClampNeg (x3 + (2 : Int32)))), .int (M264.1 9999 (Int32.toNatClampNeg (x3 + (3 : Int32))))]) (rest := [.int r263]) (v := some (.int r267)) (M1 := gm M268) (a := 280) rfl rfl rfl cw_1278 rfl (Nat.le_of_ble_eq_true rfl) rfl (Nat.le_of_ble_eq_true rfl) (qmd_owes_ok _ (by omega) he269) ?_
                                                          by_cases h270 : r263 = r267
                                                          · rw [if_pos h270] at hs
                                                            refine Rc.goL mt_1400 0 (f2 := (if r263 = r267 then 1428 else 1222, [.retAddr 1, .ref 0, .ref 280, .int x3], [], gm M268)) (b := true) rfl rfl ?_
                                                            rw [if_pos h270]
                                                            refine Rc.goL mt_1400 1 (f2 := (18, [.retAddr 1, .ref 0, .ref 280, .int (x3 + (8 : Int32))], [], gm M268)) (b := true) rfl rfl ?_
                                                            refine Rc.less (ls2 := [.retAddr 1, .ref 0, .ref 280, .int (x3 + (8 : Int32))]) (by refine ⟨Or.inr rfl, Or.inr rfl, Or.inr rfl, Or.inr rfl, trivial⟩) ?_
                                                            exact ih (x3 + (8 : Int32)) _ _ _ hs
                                                          · rw [if_neg h270] at hs
                                                            refine Rc.goL mt_1400 0 (f2 := (if r263 = r267 then 1428 else 1222, [.retAddr 1, .ref 0, .ref 280, .int x3], [], gm M268)) (b := true) rfl rfl ?_
                                                            rw [if_neg h270]
                                                            refine Rc.goL mt_1400 0 (f2 := (1223, [.retAddr 1, .ref 0, .ref 280, .int x3], [.int (0 : Int32)], gm M268)) (b := true) rfl rfl ?_
                                                            obtain ⟨e1, e2⟩ := some_p hs; subst e1; subst e2
                                                            exact Rc.ret (v := some (.int (0 : Int32))) rfl rfl
                                                        · rw [if_neg h271] at hs
                                                          by_cases h281 : ((M.1 9999 (Int32.toNatClampNeg x3)) &&& (63 : Int32)) = (26 : Int32)
                                                          · rw [if_pos h281] at hs
                                                            rw [show swl [(0, 188), (1, 211), (2, 234), (3, 277), (4, 310), (5, 333), (6, 396), (7, 419), (8, 462), (9, 495), (10, 528), (11, 562), (12, 649), (13, 703), (14, 773), (15, 806), (16, 829), (17, 882), (18, 925), (19, 1001), (20, 1024), (21, 1048), (22, 1102), (23, 1125), (24, 1158), (25, 1181), (26, 1224), (27, 1248), (28, 1261), (29, 1274), (30, 1297), (31, 1346), (32, 1359), (33, 1372), (34, 1405)] 1428 ((M.1 9999 (Int32.toNatClampNeg x3)) &&& (63 : Int32)) = 1224 by first | (simp only [swl, if_pos h281]; done) | (rw [h281]; decide)]
                                                            obtain ⟨hb272, hs⟩ := ck_some hs
                                                            refine Rc.goL mt_1400 5 (f2 := (1230, [.retAddr 1, .ref 0, .ref 280, .int x3], [.int (M.1 9999 (Int32.toNatClampNeg (x3 + (1 : Int32)))), .ref 0], gm M)) (b := (ib (Int32.toNatClampNeg (M.1 9998 0)) (x3 + (1 : Int32)) && true)) rfl hb272 ?_
                                                            obtain ⟨r273, M274, he275, hs⟩ := ob_some hs
                                                            refine Rc.callV (i := 131) (mid' := 1127) (av := [.int (M.1 9999 (Int32.toNatClampNeg (x3 + (1 : Int32))))]) (rest := []) (v := some (.long r273)) (M1 := gm M274) (a := 0) rfl rfl rfl cw_1127 rfl (Nat.le_of_ble_eq_true rfl) rfl (Nat.le_of_ble_eq_true rfl) (qfr_net_ok _ (by omega) he275) ?_
                                                            obtain ⟨hb276, hs⟩ := ck_some hs
                                                            refine Rc.goL mt_1400 5 (f2 := (1239, [.retAddr 1, .ref 0, .ref 280, .int x3], [.int (M274.1 9999 (Int32.toNatClampNeg (x3 + (1 : Int32)))), .ref 280, .long r273], gm M274)) (b := (ib (Int32.toNatClampNeg (M274.1 9998 0)) (x3 + (1 : Int32)) && true)) rfl hb276 ?_
                                                            obtain ⟨r277, M278, he279, hs⟩ := ob_some hs
                                                            refine Rc.callV (i := 134) (mid' := 1279) (av := [.int (M274.1 9999 (Int32.toNatClampNeg (x3 + (1 : Int32))))]) (rest := [.long r273]) (v := some (.long r277)) (M1 := gm M278) (a := 280) rfl rfl rfl cw_1279 rfl (Nat.le_of_ble_eq_true rfl) rfl (Nat.le_of_ble_eq_true rfl) (qmd_net_ok _ (by omega) he279) ?_
                                                            by_cases h280 : (lg_cmp r273 r277) = 0
                                                            · rw [if_pos h280] at hs
                                                              refine Rc.goL mt_1400 1 (f2 := (if (lg_cmp r273 r277) = 0 then 1428 else 1246, [.retAddr 1, .ref 0, .ref 280, .int x3], [], gm M278)) (b := true) rfl rfl ?_
                                                              rw [if_pos h280]
                                                              refine Rc.goL mt_1400 1 (f2 := (18, [.retAddr 1, .ref 0, .ref 280, .int (x3 + (8 : Int32))], [], gm M278)) (b := true) rfl rfl ?_
                                                              refine Rc.less (ls2 := [.retAddr 1, .ref 0, .ref 280, .int (x3 + (8 : Int32))]) (by refine ⟨Or.inr rfl, Or.inr rfl, Or.inr rfl, Or.inr rfl, trivial⟩) ?_
                                                              exact ih (x3 + (8 : Int32)) _ _ _ hs
                                                            · rw [if_neg h280] at hs
                                                              refine Rc.goL mt_1400 1 (f2 := (if (lg_cmp r273 r277) = 0 then 1428 else 1246, [.retAddr 1, .ref 0, .ref 280, .int x3], [], gm M278)) (b := true) rfl rfl ?_
                                                              rw [if_neg h280]
                                                              refine Rc.goL mt_1400 0 (f2 := (1247, [.retAddr 1, .ref 0, .ref 280, .int x3], [.int (0 : Int32)], gm M278)) (b := true) rfl rfl ?_
                                                              obtain ⟨e1, e2⟩ := some_p hs; subst e1; subst e2
                                                              exact Rc.ret (v := some (.int (0 : Int32))) rfl rfl
                                                          · rw [if_neg h281] at hs
                                                            by_cases h289 : ((M.1 9999 (Int32.toNatClampNeg x3)) &&& (63 : Int32)) = (27 : Int32)
                                                            · rw [if_pos h289] at hs
                                                              rw [show swl [(0, 188), (1, 211), (2, 234), (3, 277), (4, 310), (5, 333), (6, 396), (7, 419), (8, 462), (9, 495), (10, 528), (11, 562), (12, 649), (13, 703), (14, 773), (15, 806), (16, 829), (17, 882), (18, 925), (19, 1001), (20, 1024), (21, 1048), (22, 1102), (23, 1125), (24, 1158), (25, 1181), (26, 1224), (27, 1248), (28, 1261), (29, 1274), (30, 1297), (31, 1346), (32, 1359), (33, 1372), (34, 1405)] 1428 ((M.1 9999 (Int32.toNatClampNeg x3)) &&& (63 : Int32)) = 1248 by first | (simp only [swl, if_pos h289]; done) | (rw [h289]; decide)]
                                                              refine Rc.goL mt_1400 0 (f2 := (1249, [.retAddr 1, .ref 0, .ref 280, .int x3], [.ref 0], gm M)) (b := true) rfl rfl ?_
                                                              obtain ⟨r282, M283, he284, hs⟩ := ob_some hs
                                                              refine Rc.callV (i := 135) (mid' := 1128) (av := []) (rest := []) (v := some (.int r282)) (M1 := gm M283) (a := 0) rfl rfl rfl cw_1128 rfl (Nat.le_of_ble_eq_true rfl) rfl (Nat.le_of_ble_eq_true rfl) (qfr_payments_ok _ (by omega) he284) ?_
                                                              refine Rc.goL mt_1400 0 (f2 := (1253, [.retAddr 1, .ref 0, .ref 280, .int x3], [.ref 280, .int r282], gm M283)) (b := true) rfl rfl ?_
                                                              obtain ⟨r285, M286, he287, hs⟩ := ob_some hs
                                                              refine Rc.callV (i := 139) (mid' := 1280) (av := []) (rest := [.int r282]) (v := some (.int r285)) (M1 := gm M286) (a := 280) rfl rfl rfl cw_1280 rfl (Nat.le_of_ble_eq_true rfl) rfl (Nat.le_of_ble_eq_true rfl) (qmd_payments_ok _ (by omega) he287) ?_
                                                              by_cases h288 : r282 = r285
                                                              · rw [if_pos h288] at hs
                                                                refine Rc.goL mt_1400 0 (f2 := (if r282 = r285 then 1428 else 1259, [.retAddr 1, .ref 0, .ref 280, .int x3], [], gm M286)) (b := true) rfl rfl ?_
                                                                rw [if_pos h288]
                                                                refine Rc.goL mt_1400 1 (f2 := (18, [.retAddr 1, .ref 0, .ref 280, .int (x3 + (8 : Int32))], [], gm M286)) (b := true) rfl rfl ?_
                                                                refine Rc.less (ls2 := [.retAddr 1, .ref 0, .ref 280, .int (x3 + (8 : Int32))]) (by refine ⟨Or.inr rfl, Or.inr rfl, Or.inr rfl, Or.inr rfl, trivial⟩) ?_
                                                                exact ih (x3 + (8 : Int32)) _ _ _ hs
                                                              · rw [if_neg h288] at hs
                                                                refine Rc.goL mt_1400 0 (f2 := (if r282 = r285 then 1428 else 1259, [.retAddr 1, .ref 0, .ref 280, .int x3], [], gm M286)) (b := true) rfl rfl ?_
                                                                rw [if_neg h288]
                                                                refine Rc.goL mt_1400 0 (f2 := (1260, [.retAddr 1, .ref 0, .ref 280, .int x3], [.int (0 : Int32)], gm M286)) (b := true) rfl rfl ?_
                                                                obtain ⟨e1, e2⟩ := some_p hs; subst e1; subst e2
                                                                exact Rc.ret (v := some (.int (0 : Int32))) rfl rfl
                                                            · rw [if_neg h289] at hs
                                                              by_cases h297 : ((M.1 9999 (Int32.toNatClampNeg x3)) &&& (63 : Int32)) = (28 : Int32)
                                                              · rw [if_pos h297] at hs
                                                                rw [show swl [(0, 188), (1, 211), (2, 234), (3, 277), (4, 310), (5, 333), (6, 396), (7, 419), (8, 462), (9, 495), (10, 528), (11, 562), (12, 649), (13, 703), (14, 773), (15, 806), (16, 829), (17, 882), (18, 925), (19, 1001), (20, 1024), (21, 1048), (22, 1102), (23, 1125), (24, 1158), (25, 1181), (26, 1224), (27, 1248), (28, 1261), (29, 1274), (30, 1297), (31, 1346), (32, 1359), (33, 1372), (34, 1405)] 1428 ((M.1 9999 (Int32.toNatClampNeg x3)) &&& (63 : Int32)) = 1261 by first | (simp only [swl, if_pos h297]; done) | (rw [h297]; decide)]
                                                                refine Rc.goL mt_1400 0 (f2 := (1262, [.retAddr 1, .ref 0, .ref 280, .int x3], [.ref 0], gm M)) (b := true) rfl rfl ?_
                                                                obtain ⟨r290, M291, he292, hs⟩ := ob_some hs
                                                                refine Rc.callV (i := 140) (mid' := 1129) (av := []) (rest := []) (v := some (.int r290)) (M1 := gm M291) (a := 0) rfl rfl rfl cw_1129 rfl (Nat.le_of_ble_eq_true rfl) rfl (Nat.le_of_ble_eq_true rfl) (qfr_clear_ok _ (by omega) he292) ?_
                                                                refine Rc.goL mt_1400 0 (f2 := (1266, [.retAddr 1, .ref 0, .ref 280, .int x3], [.ref 280, .int r290], gm M291)) (b := true) rfl rfl ?_
                                                                obtain ⟨r293, M294, he295, hs⟩ := ob_some hs
                                                                refine Rc.callV (i := 144) (mid' := 1281) (av := []) (rest := [.int r290]) (v := some (.int r293)) (M1 := gm M294) (a := 280) rfl rfl rfl cw_1281 rfl (Nat.le_of_ble_eq_true rfl) rfl (Nat.le_of_ble_eq_true rfl) (qmd_clear_ok _ (by omega) he295) ?_
                                                                by_cases h296 : r290 = r293
                                                                · rw [if_pos h296] at hs
                                                                  refine Rc.goL mt_1400 0 (f2 := (if r290 = r293 then 1428 else 1272, [.retAddr 1, .ref 0, .ref 280, .int x3], [], gm M294)) (b := true) rfl rfl ?_
                                                                  rw [if_pos h296]
                                                                  refine Rc.goL mt_1400 1 (f2 := (18, [.retAddr 1, .ref 0, .ref 280, .int (x3 + (8 : Int32))], [], gm M294)) (b := true) rfl rfl ?_
                                                                  refine Rc.less (ls2 := [.retAddr 1, .ref 0, .ref 280, .int (x3 + (8 : Int32))]) (by refine ⟨Or.inr rfl, Or.inr rfl, Or.inr rfl, Or.inr rfl, trivial⟩) ?_
                                                                  exact ih (x3 + (8 : Int32)) _ _ _ hs
                                                                · rw [if_neg h296] at hs
                                                                  refine Rc.goL mt_1400 0 (f2 := (if r290 = r293 then 1428 else 1272, [.retAddr 1, .ref 0, .ref 280, .int x3], [], gm M294)) (b := true) rfl rfl ?_
                                                                  rw [if_neg h296]
                                                                  refine Rc.goL mt_1400 0 (f2 := (1273, [.retAddr 1, .ref 0, .ref 280, .int x3], [.int (0 : Int32)], gm M294)) (b := true) rfl rfl ?_
                                                                  obtain ⟨e1, e2⟩ := some_p hs; subst e1; subst e2
                                                                  exact Rc.ret (v := some (.int (0 : Int32))) rfl rfl
                                                              · rw [if_neg h297] at hs
                                                                by_cases h307 : ((M.1 9999 (Int32.toNatClampNeg x3)) &&& (63 : Int32)) = (29 : Int32)
                                                                · rw [if_pos h307] at hs
                                                                  rw [show swl [(0, 188), (1, 211), (2, 234), (3, 277), (4, 310), (5, 333), (6, 396), (7, 419), (8, 462), (9, 495), (10, 528), (11, 562), (12, 649), (13, 703), (14, 773), (15, 806), (16, 829), (17, 882), (18, 925), (19, 1001), (20, 1024), (21, 1048), (22, 1102), (23, 1125), (24, 1158), (25, 1181), (26, 1224), (27, 1248), (28, 1261), (29, 1274), (30, 1297), (31, 1346), (32, 1359), (33, 1372), (34, 1405)] 1428 ((M.1 9999 (Int32.toNatClampNeg x3)) &&& (63 : Int32)) = 1274 by first | (simp only [swl, if_pos h307]; done) | (rw [h307]; decide)]
                                                                  obtain ⟨hb298, hs⟩ := ck_some hs
                                                                  refine Rc.goL mt_1400 5 (f2 := (1280, [.retAddr 1, .ref 0, .ref 280, .int x3], [.int (M.1 9999 (Int32.toNatClampNeg (x3 + (1 : Int32)))), .ref 0], gm M)) (b := (ib (Int32.toNatClampNeg (M.1 9998 0)) (x3 + (1 : Int32)) && true)) rfl hb298 ?_
                                                                  obtain ⟨r299, M300, he301, hs⟩ := ob_some hs
                                                                  refine Rc.callV (i := 145) (mid' := 1130) (av := [.int (M.1 9999 (Int32.toNatClampNeg (x3 + (1 : Int32))))]) (rest := []) (v := some (.int r299)) (M1 := gm M300) (a := 0) rfl rfl rfl cw_1130 rfl (Nat.le_of_ble_eq_true rfl) rfl (Nat.le_of_ble_eq_true rfl) (qfr_fund_ok _ (by omega) he301) ?_
                                                                  obtain ⟨hb302, hs⟩ := ck_some hs
                                                                  refine Rc.goL mt_1400 5 (f2 := (1289, [.retAddr 1, .ref 0, .ref 280, .int x3], [.int (M300.1 9999 (Int32.toNatClampNeg (x3 + (1 : Int32)))), .ref 280, .int r299], gm M300)) (b := (ib (Int32.toNatClampNeg (M300.1 9998 0)) (x3 + (1 : Int32)) && true)) rfl hb302 ?_
                                                                  obtain ⟨r303, M304, he305, hs⟩ := ob_some hs
                                                                  refine Rc.callV (i := 148) (mid' := 1282) (av := [.int (M300.1 9999 (Int32.toNatClampNeg (x3 + (1 : Int32))))]) (rest := [.int r299]) (v := some (.int r303)) (M1 := gm M304) (a := 280) rfl rfl rfl cw_1282 rfl (Nat.le_of_ble_eq_true rfl) rfl (Nat.le_of_ble_eq_true rfl) (qmd_fund_ok _ (by omega) he305) ?_
                                                                  by_cases h306 : r299 = r303
                                                                  · rw [if_pos h306] at hs
                                                                    refine Rc.goL mt_1400 0 (f2 := (if r299 = r303 then 1428 else 1295, [.retAddr 1, .ref 0, .ref 280, .int x3], [], gm M304)) (b := true) rfl rfl ?_
                                                                    rw [if_pos h306]
                                                                    refine Rc.goL mt_1400 1 (f2 := (18, [.retAddr 1, .ref 0, .ref 280, .int (x3 + (8 : Int32))], [], gm M304)) (b := true) rfl rfl ?_
                                                                    refine Rc.less (ls2 := [.retAddr 1, .ref 0, .ref 280, .int (x3 + (8 : Int32))]) (by refine ⟨Or.inr rfl, Or.inr rfl, Or.inr rfl, Or.inr rfl, trivial⟩) ?_
                                                                    exact ih (x3 + (8 : Int32)) _ _ _ hs
                                                                  · rw [if_neg h306] at hs
                                                                    refine Rc.goL mt_1400 0 (f2 := (if r299 = r303 then 1428 else 1295, [.retAddr 1, .ref 0, .ref 280, .int x3], [], gm M304)) (b := true) rfl rfl ?_
                                                                    rw [if_neg h306]
                                                                    refine Rc.goL mt_1400 0 (f2 := (1296, [.retAddr 1, .ref 0, .ref 280, .int x3], [.int (0 : Int32)], gm M304)) (b := true) rfl rfl ?_
                                                                    obtain ⟨e1, e2⟩ := some_p hs; subst e1; subst e2
                                                                    exact Rc.ret (v := some (.int (0 : Int32))) rfl rfl
                                                                · rw [if_neg h307] at hs
                                                                  by_cases h327 : ((M.1 9999 (Int32.toNatClampNeg x3)) &&& (63 : Int32)) = (30 : Int32)
                                                                  · rw [if_pos h327] at hs
                                                                    rw [show swl [(0, 188), (1, 211), (2, 234), (3, 277), (4, 310), (5, 333), (6, 396), (7, 419), (8, 462), (9, 495), (10, 528), (11, 562), (12, 649), (13, 703), (14, 773), (15, 806), (16, 829), (17, 882), (18, 925), (19, 1001), (20, 1024), (21, 1048), (22, 1102), (23, 1125), (24, 1158), (25, 1181), (26, 1224), (27, 1248), (28, 1261), (29, 1274), (30, 1297), (31, 1346), (32, 1359), (33, 1372), (34, 1405)] 1428 ((M.1 9999 (Int32.toNatClampNeg x3)) &&& (63 : Int32)) = 1297 by first | (simp only [swl, if_pos h327]; done) | (rw [h327]; decide)]
                                                                    obtain ⟨hb308, hs⟩ := ck_some hs
                                                                    obtain ⟨hb308_0, hb308⟩ := and_t hb308
                                                                    obtain ⟨hb308_1, hb308⟩ := and_t hb308
                                                                    refine Rc.goL mt_1400 6 (f2 := (1304, [.retAddr 1, .ref 0, .ref 280, .int x3], [.retAddr 1, .int (M.1 9999 (Int32.toNatClampNeg (x3 + (1 : Int32)))), .ref 0], gm M)) (b := (ib (Int32.toNatClampNeg (M.1 9998 0)) (x3 + (1 : Int32)) && true)) rfl (and_i hb308_0 rfl) ?_
                                                                    refine jn_e (P := fun (j : Int32 → Int32 → SM → Option (Int32 × SM)) => ∀ (x3_309 : Int32) (t310 : Int32) (M311 : SM) (r : Int32) (Mz : SM), j x3_309 t310 M311 = some (r, Mz) → Rc (d + 1) 1400 (1316, [.retAddr 1, .ref 0, .ref 280, .int x3_309], [.int t310, .int (M.1 9999 (Int32.toNatClampNeg (x3 + (1 : Int32)))), .ref 0], gm M311) (some (.int r), gm Mz)) hs ?_ (fun j325 Hj325 hs => ?_)
                                                                    · intro x3_309 t310 M311 r Mz hs
                                                                      try dsimp only at hs
                                                                      obtain ⟨r312, M313, he314, hs⟩ := ob_some hs
                                                                      refine Rc.callV (i := 149) (mid' := 1131) (av := [.int (M.1 9999 (Int32.toNatClampNeg (x3 + (1 : Int32)))), .int t310]) (rest := []) (v := some (.int r312)) (M1 := gm M313) (a := 0) rfl rfl rfl cw_1131 rfl (Nat.le_of_ble_eq_true rfl) rfl (Nat.le_of_ble_eq_true rfl) (qfr_strike_ok _ (by omega) he314) ?_
                                                                      obtain ⟨hb315, hs⟩ := ck_some hs
                                                                      obtain ⟨hb315_0, hb315⟩ := and_t hb315
                                                                      obtain ⟨hb315_1, hb315⟩ := and_t hb315
                                                                      refine Rc.goL mt_1400 6 (f2 := (1326, [.retAddr 1, .ref 0, .ref 280, .int x3_309], [.retAddr 1, .int (M313.1 9999 (Int32.toNatClampNeg (x3_309 + (1 : Int32)))), .ref 280, .int r312], gm M313)) (b := (ib (Int32.toNatClampNeg (M313.1 9998 0)) (x3_309 + (1 : Int32)) && true)) rfl (and_i hb315_0 rfl) ?_
                                                                      refine jn_e (P := fun (j : Int32 → Int32 → SM → Option (Int32 × SM)) => ∀ (x3_316 : Int32) (t317 : Int32) (M318 : SM) (r : Int32) (Mz : SM), j x3_316 t317 M318 = some (r, Mz) → Rc (d + 1) 1400 (1338, [.retAddr 1, .ref 0, .ref 280, .int x3_316], [.int t317, .int (M313.1 9999 (Int32.toNatClampNeg (x3_309 + (1 : Int32)))), .ref 280, .int r312], gm M318) (some (.int r), gm Mz)) hs ?_ (fun j323 Hj323 hs => ?_)
                                                                      · intro x3_316 t317 M318 r Mz hs
                                                                        try dsimp only at hs
                                                                        obtain ⟨r319, M320, he321, hs⟩ := ob_some hs
                                                                        refine Rc.callV (i := 153) (mid' := 1283) (av := [.int (M313.1 9999 (Int32.toNatClampNeg (x3_309 + (1 : Int32)))), .int t317]) (rest := [.int r312]) (v := some (.int r319)) (M1 := gm M320) (a := 280) rfl rfl rfl cw_1283 rfl (Nat.le_of_ble_eq_true rfl) rfl (Nat.le_of_ble_eq_true rfl) (qmd_strike_ok _ (by omega) he321) ?_
                                                                        by_cases h322 : r312 = r319
                                                                        · rw [if_pos h322] at hs
                                                                          refine Rc.goL mt_1400 0 (f2 := (if r312 = r319 then 1428 else 1344, [.retAddr 1, .ref 0, .ref 280, .int x3_316], [], gm M320)) (b := true) rfl rfl ?_
                                                                          rw [if_pos h322]
                                                                          refine Rc.goL mt_1400 1 (f2 := (18, [.retAddr 1, .ref 0, .ref 280, .int (x3_316 + (8 : Int32))], [], gm M320)) (b := true) rfl rfl ?_
                                                                          refine Rc.less (ls2 := [.retAddr 1, .ref 0, .ref 280, .int (x3_316 + (8 : Int32))]) (by refine ⟨Or.inr rfl, Or.inr rfl, Or.inr rfl, Or.inr rfl, trivial⟩) ?_
                                                                          exact ih (x3_316 + (8 : Int32)) _ _ _ hs
                                                                        · rw [if_neg h322] at hs
                                                                          refine Rc.goL mt_1400 0 (f2 := (if r312 = r319 then 1428 else 1344, [.retAddr 1, .ref 0, .ref 280, .int x3_316], [], gm M320)) (b := true) rfl rfl ?_
                                                                          rw [if_neg h322]
                                                                          refine Rc.goL mt_1400 0 (f2 := (1345, [.retAddr 1, .ref 0, .ref 280, .int x3_316], [.int (0 : Int32)], gm M320)) (b := true) rfl rfl ?_
                                                                          obtain ⟨e1, e2⟩ := some_p hs; subst e1; subst e2
                                                                          exact Rc.ret (v := some (.int (0 : Int32))) rfl rfl
                                                                      by_cases h324 : (M313.1 9999 (Int32.toNatClampNeg (x3_309 + (2 : Int32)))) = 0
                                                                      · rw [if_pos h324] at hs
                                                                        refine Rc.goL mt_1400 4 (f2 := (if (M313.1 9999 (Int32.toNatClampNeg (x3_309 + (2 : Int32)))) = 0 then 1337 else 1333, [.retAddr 1, .ref 0, .ref 280, .int x3_309], [.int (M313.1 9999 (Int32.toNatClampNeg (x3_309 + (1 : Int32)))), .ref 280, .int r312], gm M313)) (b := (ib (Int32.toNatClampNeg (M313.1 9998 0)) (x3_309 + (2 : Int32)) && true)) rfl (and_i hb315_1 rfl) ?_
                                                                        rw [if_pos h324]
                                                                        refine Rc.goL mt_1400 0 (f2 := (1338, [.retAddr 1, .ref 0, .ref 280, .int x3_309], [.int (0 : Int32), .int (M313.1 9999 (Int32.toNatClampNeg (x3_309 + (1 : Int32)))), .ref 280, .int r312], gm M313)) (b := true) rfl rfl ?_
                                                                        refine Rc.less (ls2 := [.retAddr 1, .ref 0, .ref 280, .int x3_309]) (by refine ⟨Or.inr rfl, Or.inr rfl, Or.inr rfl, Or.inr rfl, trivial⟩) ?_
                                                                        exact Hj323 x3_309 (0 : Int32) _ _ _ hs
                                                                      · rw [if_neg h324] at hs
                                                                        refine Rc.goL mt_1400 4 (f2 := (if (M313.1 9999 (Int32.toNatClampNeg (x3_309 + (2 : Int32)))) = 0 then 1337 else 1333, [.retAddr 1, .ref 0, .ref 280, .int x3_309], [.int (M313.1 9999 (Int32.toNatClampNeg (x3_309 + (1 : Int32)))), .ref 280, .int r312], gm M313)) (b := (ib (Int32.toNatClampNeg (M313.1 9998 0)) (x3_309 + (2 : Int32)) && true)) rfl (and_i hb315_1 rfl) ?_
                                                                        rw [if_neg h324]
                                                                        refine Rc.goL mt_1400 1 (f2 := (1338, [.retAddr 1, .ref 0, .ref 280, .int x3_309], [.int (1 : Int32), .int (M313.1 9999 (Int32.toNatClampNeg (x3_309 + (1 : Int32)))), .ref 280, .int r312], gm M313)) (b := true) rfl rfl ?_
                                                                        refine Rc.less (ls2 := [.retAddr 1, .ref 0, .ref 280, .int x3_309]) (by refine ⟨Or.inr rfl, Or.inr rfl, Or.inr rfl, Or.inr rfl, trivial⟩) ?_
                                                                        exact Hj323 x3_309 (1 : Int32) _ _ _ hs
                                                                    by_cases h326 : (M.1 9999 (Int32.toNatClampNeg (x3 + (2 : Int32)))) = 0
                                                                    · rw [if_pos h326] at hs
                                                                      refine Rc.goL mt_1400 4 (f2 := (if (M.1 9999 (Int32.toNatClampNeg (x3 + (2 : Int32)))) = 0 then 1315 else 1311, [.retAddr 1, .ref 0, .ref 280, .int x3], [.int (M.1 9999 (Int32.toNatClampNeg (x3 + (1 : Int32)))), .ref 0], gm M)) (b := (ib (Int32.toNatClampNeg (M.1 9998 0)) (x3 + (2 : Int32)) && true)) rfl (and_i hb308_1 rfl) ?_
                                                                      rw [if_pos h326]
                                                                      refine Rc.goL mt_1400 0 (f2 := (1316, [.retAddr 1, .ref 0, .ref 280, .int x3], [.int (0 : Int32), .int (M.1 9999 (Int32.toNatClampNeg (x3 + (1 : Int32)))), .ref 0], gm M)) (b := true) rfl rfl ?_
                                                                      refine Rc.less (ls2 := [.retAddr 1, .ref 0, .ref 280, .int x3]) (by refine ⟨Or.inr rfl, Or.inr rfl, Or.inr rfl, Or.inr rfl, trivial⟩) ?_
                                                                      exact Hj325 x3 (0 : Int32) _ _ _ hs
                                                                    · rw [if_neg h326] at hs
                                                                      refine Rc.goL mt_1400 4 (f2 := (if (M.1 9999 (Int32.toNatClampNeg (x3 + (2 : Int32)))) = 0 then 1315 else 1311, [.retAddr 1, .ref 0, .ref 280, .int x3], [.int (M.1 9999 (Int32.toNatClampNeg (x3 + (1 : Int32)))), .ref 0], gm M)) (b := (ib (Int32.toNatClampNeg (M.1 9998 0)) (x3 + (2 : Int32)) && true)) rfl (and_i hb308_1 rfl) ?_
                                                                      rw [if_neg h326]
                                                                      refine Rc.goL mt_1400 1 (f2 := (1316, [.retAddr 1, .ref 0, .ref 280, .int x3], [.int (1 : Int32), .int (M.1 9999 (Int32.toNatClampNeg (x3 + (1 : Int32)))), .ref 0], gm M)) (b := true) rfl rfl ?_
                                                                      refine Rc.less (ls2 := [.retAddr 1, .ref 0, .ref 280, .int x3]) (by refine ⟨Or.inr rfl, Or.inr rfl, Or.inr rfl, Or.inr rfl, trivial⟩) ?_
                                                                      exact Hj325 x3 (1 : Int32) _ _ _ hs
                                                                  · rw [if_neg h327] at hs
                                                                    by_cases h335 : ((M.1 9999 (Int32.toNatClampNeg x3)) &&& (63 : Int32)) = (31 : Int32)
                                                                    · rw [if_pos h335] at hs
                                                                      rw [show swl [(0, 188), (1, 211), (2, 234), (3, 277), (4, 310), (5, 333), (6, 396), (7, 419), (8, 462), (9, 495), (10, 528), (11, 562), (12, 649), (13, 703), (14, 773), (15, 806), (16, 829), (17, 882), (18, 925), (19, 1001), (20, 1024), (21, 1048), (22, 1102), (23, 1125), (24, 1158), (25, 1181), (26, 1224), (27, 1248), (28, 1261), (29, 1274), (30, 1297), (31, 1346), (32, 1359), (33, 1372), (34, 1405)] 1428 ((M.1 9999 (Int32.toNatClampNeg x3)) &&& (63 : Int32)) = 1346 by first | (simp only [swl, if_pos h335]; done) | (rw [h335]; decide)]
                                                                      refine Rc.goL mt_1400 0 (f2 := (1347, [.retAddr 1, .ref 0, .ref 280, .int x3], [.ref 0], gm M)) (b := true) rfl rfl ?_
                                                                      obtain ⟨r328, M329, he330, hs⟩ := ob_some hs
                                                                      refine Rc.callV (i := 154) (mid' := 1132) (av := []) (rest := []) (v := some (.int r328)) (M1 := gm M329) (a := 0) rfl rfl rfl cw_1132 rfl (Nat.le_of_ble_eq_true rfl) rfl (Nat.le_of_ble_eq_true rfl) (qfr_lasts_ok _ (by omega) he330) ?_
                                                                      refine Rc.goL mt_1400 0 (f2 := (1351, [.retAddr 1, .ref 0, .ref 280, .int x3], [.ref 280, .int r328], gm M329)) (b := true) rfl rfl ?_
                                                                      obtain ⟨r331, M332, he333, hs⟩ := ob_some hs
                                                                      refine Rc.callV (i := 157) (mid' := 1284) (av := []) (rest := [.int r328]) (v := some (.int r331)) (M1 := gm M332) (a := 280) rfl rfl rfl cw_1284 rfl (Nat.le_of_ble_eq_true rfl) rfl (Nat.le_of_ble_eq_true rfl) (qmd_lasts_ok _ (by omega) he333) ?_
                                                                      by_cases h334 : r328 = r331
                                                                      · rw [if_pos h334] at hs
                                                                        refine Rc.goL mt_1400 0 (f2 := (if r328 = r331 then 1428 else 1357, [.retAddr 1, .ref 0, .ref 280, .int x3], [], gm M332)) (b := true) rfl rfl ?_
                                                                        rw [if_pos h334]
                                                                        refine Rc.goL mt_1400 1 (f2 := (18, [.retAddr 1, .ref 0, .ref 280, .int (x3 + (8 : Int32))], [], gm M332)) (b := true) rfl rfl ?_
                                                                        refine Rc.less (ls2 := [.retAddr 1, .ref 0, .ref 280, .int (x3 + (8 : Int32))]) (by refine ⟨Or.inr rfl, Or.inr rfl, Or.inr rfl, Or.inr rfl, trivial⟩) ?_
                                                                        exact ih (x3 + (8 : Int32)) _ _ _ hs
                                                                      · rw [if_neg h334] at hs
                                                                        refine Rc.goL mt_1400 0 (f2 := (if r328 = r331 then 1428 else 1357, [.retAddr 1, .ref 0, .ref 280, .int x3], [], gm M332)) (b := true) rfl rfl ?_
                                                                        rw [if_neg h334]
                                                                        refine Rc.goL mt_1400 0 (f2 := (1358, [.retAddr 1, .ref 0, .ref 280, .int x3], [.int (0 : Int32)], gm M332)) (b := true) rfl rfl ?_
                                                                        obtain ⟨e1, e2⟩ := some_p hs; subst e1; subst e2
                                                                        exact Rc.ret (v := some (.int (0 : Int32))) rfl rfl
                                                                    · rw [if_neg h335] at hs
                                                                      by_cases h343 : ((M.1 9999 (Int32.toNatClampNeg x3)) &&& (63 : Int32)) = (32 : Int32)
                                                                      · rw [if_pos h343] at hs
                                                                        rw [show swl [(0, 188), (1, 211), (2, 234), (3, 277), (4, 310), (5, 333), (6, 396), (7, 419), (8, 462), (9, 495), (10, 528), (11, 562), (12, 649), (13, 703), (14, 773), (15, 806), (16, 829), (17, 882), (18, 925), (19, 1001), (20, 1024), (21, 1048), (22, 1102), (23, 1125), (24, 1158), (25, 1181), (26, 1224), (27, 1248), (28, 1261), (29, 1274), (30, 1297), (31, 1346), (32, 1359), (33, 1372), (34, 1405)] 1428 ((M.1 9999 (Int32.toNatClampNeg x3)) &&& (63 : Int32)) = 1359 by first | (simp only [swl, if_pos h343]; done) | (rw [h343]; decide)]
                                                                        refine Rc.goL mt_1400 0 (f2 := (1360, [.retAddr 1, .ref 0, .ref 280, .int x3], [.ref 0], gm M)) (b := true) rfl rfl ?_
                                                                        obtain ⟨r336, M337, he338, hs⟩ := ob_some hs
                                                                        refine Rc.callV (i := 158) (mid' := 1133) (av := []) (rest := []) (v := some (.int r336)) (M1 := gm M337) (a := 0) rfl rfl rfl cw_1133 rfl (Nat.le_of_ble_eq_true rfl) rfl (Nat.le_of_ble_eq_true rfl) (qfr_goes_ok _ (by omega) he338) ?_
                                                                        refine Rc.goL mt_1400 0 (f2 := (1364, [.retAddr 1, .ref 0, .ref 280, .int x3], [.ref 280, .int r336], gm M337)) (b := true) rfl rfl ?_
                                                                        obtain ⟨r339, M340, he341, hs⟩ := ob_some hs
                                                                        refine Rc.callV (i := 161) (mid' := 1285) (av := []) (rest := [.int r336]) (v := some (.int r339)) (M1 := gm M340) (a := 280) rfl rfl rfl cw_1285 rfl (Nat.le_of_ble_eq_true rfl) rfl (Nat.le_of_ble_eq_true rfl) (qmd_goes_ok _ (by omega) he341) ?_
                                                                        by_cases h342 : r336 = r339
                                                                        · rw [if_pos h342] at hs
                                                                          refine Rc.goL mt_1400 0 (f2 := (if r336 = r339 then 1428 else 1370, [.retAddr 1, .ref 0, .ref 280, .int x3], [], gm M340)) (b := true) rfl rfl ?_
                                                                          rw [if_pos h342]
                                                                          refine Rc.goL mt_1400 1 (f2 := (18, [.retAddr 1, .ref 0, .ref 280, .int (x3 + (8 : Int32))], [], gm M340)) (b := true) rfl rfl ?_
                                                                          refine Rc.less (ls2 := [.retAddr 1, .ref 0, .ref 280, .int (x3 + (8 : Int32))]) (by refine ⟨Or.inr rfl, Or.inr rfl, Or.inr rfl, Or.inr rfl, trivial⟩) ?_
                                                                          exact ih (x3 + (8 : Int32)) _ _ _ hs
                                                                        · rw [if_neg h342] at hs
                                                                          refine Rc.goL mt_1400 0 (f2 := (if r336 = r339 then 1428 else 1370, [.retAddr 1, .ref 0, .ref 280, .int x3], [], gm M340)) (b := true) rfl rfl ?_
                                                                          rw [if_neg h342]
                                                                          refine Rc.goL mt_1400 0 (f2 := (1371, [.retAddr 1, .ref 0, .ref 280, .int x3], [.int (0 : Int32)], gm M340)) (b := true) rfl rfl ?_
                                                                          obtain ⟨e1, e2⟩ := some_p hs; subst e1; subst e2
                                                                          exact Rc.ret (v := some (.int (0 : Int32))) rfl rfl
                                                                      · rw [if_neg h343] at hs
                                                                        by_cases h353 : ((M.1 9999 (Int32.toNatClampNeg x3)) &&& (63 : Int32)) = (33 : Int32)
                                                                        · rw [if_pos h353] at hs
                                                                          rw [show swl [(0, 188), (1, 211), (2, 234), (3, 277), (4, 310), (5, 333), (6, 396), (7, 419), (8, 462), (9, 495), (10, 528), (11, 562), (12, 649), (13, 703), (14, 773), (15, 806), (16, 829), (17, 882), (18, 925), (19, 1001), (20, 1024), (21, 1048), (22, 1102), (23, 1125), (24, 1158), (25, 1181), (26, 1224), (27, 1248), (28, 1261), (29, 1274), (30, 1297), (31, 1346), (32, 1359), (33, 1372), (34, 1405)] 1428 ((M.1 9999 (Int32.toNatClampNeg x3)) &&& (63 : Int32)) = 1372 by first | (simp only [swl, if_pos h353]; done) | (rw [h353]; decide)]
                                                                          obtain ⟨hb344, hs⟩ := ck_some hs
                                                                          obtain ⟨hb344_0, hb344⟩ := and_t hb344
                                                                          obtain ⟨hb344_1, hb344⟩ := and_t hb344
                                                                          refine Rc.goL mt_1400 6 (f2 := (1379, [.retAddr 1, .ref 0, .ref 280, .int x3], [.retAddr 1, .int (M.1 9999 (Int32.toNatClampNeg (x3 + (1 : Int32)))), .ref 0], gm M)) (b := (ib (Int32.toNatClampNeg (M.1 9998 0)) (x3 + (1 : Int32)) && true)) rfl (and_i hb344_0 rfl) ?_
                                                                          refine Rc.goL mt_1400 3 (f2 := (1383, [.retAddr 1, .ref 0, .ref 280, .int x3], [.int (M.1 9999 (Int32.toNatClampNeg (x3 + (2 : Int32)))), .int (M.1 9999 (Int32.toNatClampNeg (x3 + (1 : Int32)))), .ref 0], gm M)) (b := (ib (Int32.toNatClampNeg (M.1 9998 0)) (x3 + (2 : Int32)) && true)) rfl (and_i hb344_1 rfl) ?_
                                                                          obtain ⟨r345, M346, he347, hs⟩ := ob_some hs
                                                                          refine Rc.callV (i := 162) (mid' := 1134) (av := [.int (M.1 9999 (Int32.toNatClampNeg (x3 + (1 : Int32)))), .int (M.1 9999 (Int32.toNatClampNeg (x3 + (2 : Int32))))]) (rest := []) (v := some (.int r345)) (M1 := gm M346) (a := 0) rfl rfl rfl cw_1134 rfl (Nat.le_of_ble_eq_true rfl) rfl (Nat.le_of_ble_eq_true rfl) (qfr_look_ok _ (by omega) he347) ?_
                                                                          obtain ⟨hb348, hs⟩ := ck_some hs
                                                                          obtain ⟨hb348_0, hb348⟩ := and_t hb348
                                                                          obtain ⟨hb348_1, hb348⟩ := and_t hb348
                                                                          refine Rc.goL mt_1400 6 (f2 := (1393, [.retAddr 1, .ref 0, .ref 280, .int x3], [.retAddr 1, .int (M346.1 9999 (Int32.toNatClampNeg (x3 + (1 : Int32)))), .ref 280, .int r345], gm M346)) (b := (ib (Int32.toNatClampNeg (M346.1 9998 0)) (x3 + (1 : Int32)) && true)) rfl (and_i hb348_0 rfl) ?_
                                                                          refine Rc.goL mt_1400 3 (f2 := (1397, [.retAddr 1, .ref 0, .ref 280, .int x3], [.int (M346.1 9999 (Int32.toNatClampNeg (x3 + (2 : Int32)))), .int (M346.1 9999 (Int32.toNatClampNeg (x3 + (1 : Int32)))), .ref 280, .int r345], gm M346)) (b := (ib (Int32.toNatClampNeg (M346.1 9998 0)) (x3 + (2 : Int32)) && true)) rfl (and_i hb348_1 rfl) ?_
                                                                          obtain ⟨r349, M350, he351, hs⟩ := ob_some hs
                                                                          refine Rc.callV (i := 165) (mid' := 1286) (av := [.int (M346.1 9999 (Int32.toNatClampNeg (x3 + (1 : Int32)))), .int (M346.1 9999 (Int32.toNatClampNeg (x3 + (2 : Int32))))]) (rest := [.int r345]) (v := some (.int r349)) (M1 := gm M350) (a := 280) rfl rfl rfl cw_1286 rfl (Nat.le_of_ble_eq_true rfl) rfl (Nat.le_of_ble_eq_true rfl) (qmd_look_ok _ (by omega) he351) ?_
                                                                          by_cases h352 : r345 = r349
                                                                          · rw [if_pos h352] at hs
                                                                            refine Rc.goL mt_1400 0 (f2 := (if r345 = r349 then 1428 else 1403, [.retAddr 1, .ref 0, .ref 280, .int x3], [], gm M350)) (b := true) rfl rfl ?_
                                                                            rw [if_pos h352]
                                                                            refine Rc.goL mt_1400 1 (f2 := (18, [.retAddr 1, .ref 0, .ref 280, .int (x3 + (8 : Int32))], [], gm M350)) (b := true) rfl rfl ?_
                                                                            refine Rc.less (ls2 := [.retAddr 1, .ref 0, .ref 280, .int (x3 + (8 : Int32))]) (by refine ⟨Or.inr rfl, Or.inr rfl, Or.inr rfl, Or.inr rfl, trivial⟩) ?_
                                                                            exact ih (x3 + (8 : Int32)) _ _ _ hs
                                                                          · rw [if_neg h352] at hs
                                                                            refine Rc.goL mt_1400 0 (f2 := (if r345 = r349 then 1428 else 1403, [.retAddr 1, .ref 0, .ref 280, .int x3], [], gm M350)) (b := true) rfl rfl ?_
                                                                            rw [if_neg h352]
                                                                            refine Rc.goL mt_1400 0 (f2 := (1404, [.retAddr 1, .ref 0, .ref 280, .int x3], [.int (0 : Int32)], gm M350)) (b := true) rfl rfl ?_
                                                                            obtain ⟨e1, e2⟩ := some_p hs; subst e1; subst e2
                                                                            exact Rc.ret (v := some (.int (0 : Int32))) rfl rfl
                                                                        · rw [if_neg h353] at hs
                                                                          by_cases h363 : ((M.1 9999 (Int32.toNatClampNeg x3)) &&& (63 : Int32)) = (34 : Int32)
                                                                          · rw [if_pos h363] at hs
                                                                            rw [show swl [(0, 188), (1, 211), (2, 234), (3, 277), (4, 310), (5, 333), (6, 396), (7, 419), (8, 462), (9, 495), (10, 528), (11, 562), (12, 649), (13, 703), (14, 773), (15, 806), (16, 829), (17, 882), (18, 925), (19, 1001), (20, 1024), (21, 1048), (22, 1102), (23, 1125), (24, 1158), (25, 1181), (26, 1224), (27, 1248), (28, 1261), (29, 1274), (30, 1297), (31, 1346), (32, 1359), (33, 1372), (34, 1405)] 1428 ((M.1 9999 (Int32.toNatClampNeg x3)) &&& (63 : Int32)) = 1405 by first | (simp only [swl, if_pos h363]; done) | (rw [h363]; decide)]
                                                                            obtain ⟨hb354, hs⟩ := ck_some hs
                                                                            refine Rc.goL mt_1400 5 (f2 := (1411, [.retAddr 1, .ref 0, .ref 280, .int x3], [.int (M.1 9999 (Int32.toNatClampNeg (x3 + (1 : Int32)))), .ref 0], gm M)) (b := (ib (Int32.toNatClampNeg (M.1 9998 0)) (x3 + (1 : Int32)) && true)) rfl hb354 ?_
                                                                            obtain ⟨r355, M356, he357, hs⟩ := ob_some hs
                                                                            refine Rc.callV (i := 166) (mid' := 1135) (av := [.int (M.1 9999 (Int32.toNatClampNeg (x3 + (1 : Int32))))]) (rest := []) (v := some (.int r355)) (M1 := gm M356) (a := 0) rfl rfl rfl cw_1135 rfl (Nat.le_of_ble_eq_true rfl) rfl (Nat.le_of_ble_eq_true rfl) (qfr_count_ok _ (by omega) he357) ?_
                                                                            obtain ⟨hb358, hs⟩ := ck_some hs
                                                                            refine Rc.goL mt_1400 5 (f2 := (1420, [.retAddr 1, .ref 0, .ref 280, .int x3], [.int (M356.1 9999 (Int32.toNatClampNeg (x3 + (1 : Int32)))), .ref 280, .int r355], gm M356)) (b := (ib (Int32.toNatClampNeg (M356.1 9998 0)) (x3 + (1 : Int32)) && true)) rfl hb358 ?_
                                                                            obtain ⟨r359, M360, he361, hs⟩ := ob_some hs
                                                                            refine Rc.callV (i := 169) (mid' := 1288) (av := [.int (M356.1 9999 (Int32.toNatClampNeg (x3 + (1 : Int32))))]) (rest := [.int r355]) (v := some (.int r359)) (M1 := gm M360) (a := 280) rfl rfl rfl cw_1288 rfl (Nat.le_of_ble_eq_true rfl) rfl (Nat.le_of_ble_eq_true rfl) (qmd_count_ok _ (by omega) he361) ?_
                                                                            by_cases h362 : r355 = r359
                                                                            · rw [if_pos h362] at hs
                                                                              refine Rc.goL mt_1400 0 (f2 := (if r355 = r359 then 1428 else 1426, [.retAddr 1, .ref 0, .ref 280, .int x3], [], gm M360)) (b := true) rfl rfl ?_
                                                                              rw [if_pos h362]
                                                                              refine Rc.goL mt_1400 1 (f2 := (18, [.retAddr 1, .ref 0, .ref 280, .int (x3 + (8 : Int32))], [], gm M360)) (b := true) rfl rfl ?_
                                                                              refine Rc.less (ls2 := [.retAddr 1, .ref 0, .ref 280, .int (x3 + (8 : Int32))]) (by refine ⟨Or.inr rfl, Or.inr rfl, Or.inr rfl, Or.inr rfl, trivial⟩) ?_
                                                                              exact ih (x3 + (8 : Int32)) _ _ _ hs
                                                                            · rw [if_neg h362] at hs
                                                                              refine Rc.goL mt_1400 0 (f2 := (if r355 = r359 then 1428 else 1426, [.retAddr 1, .ref 0, .ref 280, .int x3], [], gm M360)) (b := true) rfl rfl ?_
                                                                              rw [if_neg h362]
                                                                              refine Rc.goL mt_1400 0 (f2 := (1427, [.retAddr 1, .ref 0, .ref 280, .int x3], [.int (0 : Int32)], gm M360)) (b := true) rfl rfl ?_
                                                                              obtain ⟨e1, e2⟩ := some_p hs; subst e1; subst e2
                                                                              exact Rc.ret (v := some (.int (0 : Int32))) rfl rfl
                                                                          · rw [if_neg h363] at hs
                                                                            rw [show swl [(0, 188), (1, 211), (2, 234), (3, 277), (4, 310), (5, 333), (6, 396), (7, 419), (8, 462), (9, 495), (10, 528), (11, 562), (12, 649), (13, 703), (14, 773), (15, 806), (16, 829), (17, 882), (18, 925), (19, 1001), (20, 1024), (21, 1048), (22, 1102), (23, 1125), (24, 1158), (25, 1181), (26, 1224), (27, 1248), (28, 1261), (29, 1274), (30, 1297), (31, 1346), (32, 1359), (33, 1372), (34, 1405)] 1428 ((M.1 9999 (Int32.toNatClampNeg x3)) &&& (63 : Int32)) = 1428 by simp only [swl, if_neg h11, if_neg h21, if_neg h31, if_neg h41, if_neg h51, if_neg h61, if_neg h71, if_neg h81, if_neg h91, if_neg h101, if_neg h111, if_neg h121, if_neg h131, if_neg h151, if_neg h161, if_neg h171, if_neg h181, if_neg h191, if_neg h201, if_neg h211, if_neg h221, if_neg h231, if_neg h241, if_neg h251, if_neg h261, if_neg h271, if_neg h281, if_neg h289, if_neg h297, if_neg h307, if_neg h327, if_neg h335, if_neg h343, if_neg h353, if_neg h363]]
                                                                            refine Rc.goL mt_1400 1 (f2 := (18, [.retAddr 1, .ref 0, .ref 280, .int (x3 + (8 : Int32))], [], gm M)) (b := true) rfl rfl ?_
                                                                            refine Rc.less (ls2 := [.retAddr 1, .ref 0, .ref 280, .int (x3 + (8 : Int32))]) (by refine ⟨Or.inr rfl, Or.inr rfl, Or.inr rfl, Or.inr rfl, trivial⟩) ?_
                                                                            exact ih (x3 + (8 : Int32)) _ _ _ hs
