set_option maxRecDepth 100000 in
theorem eokl_750 : ((cd_L_law.drop 750).take 250).all (eokD 316) = true := by decide +kernel
