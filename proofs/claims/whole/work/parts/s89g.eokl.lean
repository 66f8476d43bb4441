set_option maxRecDepth 100000 in
theorem eokl_0 : ((cd_L_law.drop 0).take 250).all (eokD 316) = true := by decide +kernel
set_option maxRecDepth 100000 in
theorem eokl_250 : ((cd_L_law.drop 250).take 250).all (eokD 316) = true := by decide +kernel
