set_option maxRecDepth 100000 in
theorem vL_6 : ((K_1400.drop 270).take 45).all (okE (cB 1400)) = true := by decide +kernel
set_option maxRecDepth 100000 in
theorem vL_7 : ((K_1400.drop 315).take 45).all (okE (cB 1400)) = true := by decide +kernel
set_option maxRecDepth 100000 in
theorem vL_8 : ((K_1400.drop 360).take 45).all (okE (cB 1400)) = true := by decide +kernel
set_option maxRecDepth 100000 in
theorem vL_9 : ((K_1400.drop 405).take 45).all (okE (cB 1400)) = true := by decide +kernel
set_option maxRecDepth 100000 in
theorem vL_10 : ((K_1400.drop 450).take 45).all (okE (cB 1400)) = true := by decide +kernel
set_option maxRecDepth 100000 in
theorem vL_11 : ((K_1400.drop 495).take 45).all (okE (cB 1400)) = true := by decide +kernel
