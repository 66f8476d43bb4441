set_option maxRecDepth 100000 in
theorem eokl_500 : ((cd_L_law.drop 500).take 250).all (eokD 316) = true := by decide +kernel
