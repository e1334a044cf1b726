set_option maxRecDepth 100000 in
theorem vL_12 : ((K_1400.drop 540).take 45).all (okE (cB 1400)) = true := by decide +kernel
set_option maxRecDepth 100000 in
theorem vL_13 : ((K_1400.drop 585).take 45).all (okE (cB 1400)) = true := by decide +kernel
set_option maxRecDepth 100000 in
theorem vL_14 : ((K_1400.drop 630).take 45).all (okE (cB 1400)) = true := by decide +kernel
set_option maxRecDepth 100000 in
theorem vL_15 : ((K_1400.drop 675).take 45).all (okE (cB 1400)) = true := by decide +kernel
set_option maxRecDepth 100000 in
theorem vL_16 : ((K_1400.drop 720).take 45).all (okE (cB 1400)) = true := by decide +kernel
set_option maxRecDepth 100000 in
theorem vL_17 : ((K_1400.drop 765).take 45).all (okE (cB 1400)) = true := by decide +kernel
