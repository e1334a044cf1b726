set_option maxRecDepth 100000 in
theorem vL_0 : ((K_1400.drop 0).take 45).all (okE (cB 1400)) = true := by decide +kernel
set_option maxRecDepth 100000 in
theorem vL_1 : ((K_1400.drop 45).take 45).all (okE (cB 1400)) = true := by decide +kernel
set_option maxRecDepth 100000 in
theorem vL_2 : ((K_1400.drop 90).take 45).all (okE (cB 1400)) = true := by decide +kernel
set_option maxRecDepth 100000 in
theorem vL_3 : ((K_1400.drop 135).take 45).all (okE (cB 1400)) = true := by decide +kernel
set_option maxRecDepth 100000 in
theorem vL_4 : ((K_1400.drop 180).take 45).all (okE (cB 1400)) = true := by decide +kernel
set_option maxRecDepth 100000 in
theorem vL_5 : ((K_1400.drop 225).take 45).all (okE (cB 1400)) = true := by decide +kernel
