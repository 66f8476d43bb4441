set_option maxRecDepth 100000 in
theorem eokl_750 : ((cd_L_law.drop 750).take 28).all (eokD 316) = true := by decide +kernel
set_option maxRecDepth 100000 in
theorem eokl_778 : ((cd_L_law.drop 778).take 28).all (eokD 316) = true := by decide +kernel
set_option maxRecDepth 100000 in
theorem eokl_806 : ((cd_L_law.drop 806).take 28).all (eokD 316) = true := by decide +kernel
set_option maxRecDepth 100000 in
theorem eokl_834 : ((cd_L_law.drop 834).take 28).all (eokD 316) = true := by decide +kernel
set_option maxRecDepth 100000 in
theorem eokl_862 : ((cd_L_law.drop 862).take 28).all (eokD 316) = true := by decide +kernel
set_option maxRecDepth 100000 in
theorem eokl_890 : ((cd_L_law.drop 890).take 28).all (eokD 316) = true := by decide +kernel
set_option maxRecDepth 100000 in
theorem eokl_918 : ((cd_L_law.drop 918).take 28).all (eokD 316) = true := by decide +kernel
set_option maxRecDepth 100000 in
theorem eokl_946 : ((cd_L_law.drop 946).take 28).all (eokD 316) = true := by decide +kernel
