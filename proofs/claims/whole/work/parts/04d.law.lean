/-! The check of the law's own code, in pieces. -/
set_option maxRecDepth 100000 in
theorem okl_0 : ((ct_L_law.drop 0).take 35).all (okE 198 mt_L_law) = true := by decide +kernel
set_option maxRecDepth 100000 in
theorem okl_1 : ((ct_L_law.drop 35).take 35).all (okE 198 mt_L_law) = true := by decide +kernel
set_option maxRecDepth 100000 in
theorem okl_2 : ((ct_L_law.drop 70).take 35).all (okE 198 mt_L_law) = true := by decide +kernel
set_option maxRecDepth 100000 in
theorem okl_3 : ((ct_L_law.drop 105).take 35).all (okE 198 mt_L_law) = true := by decide +kernel
set_option maxRecDepth 100000 in
theorem okl_4 : ((ct_L_law.drop 140).take 35).all (okE 198 mt_L_law) = true := by decide +kernel
set_option maxRecDepth 100000 in
theorem okl_5 : ((ct_L_law.drop 175).take 35).all (okE 198 mt_L_law) = true := by decide +kernel
set_option maxRecDepth 100000 in
theorem okl_6 : ((ct_L_law.drop 210).take 35).all (okE 198 mt_L_law) = true := by decide +kernel
set_option maxRecDepth 100000 in
theorem okl_7 : ((ct_L_law.drop 245).take 35).all (okE 198 mt_L_law) = true := by decide +kernel
set_option maxRecDepth 100000 in
theorem okl_8 : ((ct_L_law.drop 280).take 35).all (okE 198 mt_L_law) = true := by decide +kernel
