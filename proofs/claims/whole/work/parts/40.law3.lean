set_option maxRecDepth 100000 in
theorem vL_18 : ((K_1400.drop 810).take 45).all (okE (cB 1400)) = true := by decide +kernel
set_option maxRecDepth 100000 in
theorem vL_19 : ((K_1400.drop 855).take 45).all (okE (cB 1400)) = true := by decide +kernel
set_option maxRecDepth 100000 in
theorem vL_20 : ((K_1400.drop 900).take 45).all (okE (cB 1400)) = true := by decide +kernel
set_option maxRecDepth 100000 in
theorem vL_21 : ((K_1400.drop 945).take 45).all (okE (cB 1400)) = true := by decide +kernel
set_option maxRecDepth 100000 in
theorem vL_22 : ((K_1400.drop 990).take 45).all (okE (cB 1400)) = true := by decide +kernel
