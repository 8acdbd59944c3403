/-! The check of the law's own code, in pieces. -/
set_option maxRecDepth 100000 in
theorem okl_9 : ((ct_L_law.drop 315).take 35).all (okE 198 mt_L_law) = true := by decide +kernel
set_option maxRecDepth 100000 in
theorem okl_10 : ((ct_L_law.drop 350).take 35).all (okE 198 mt_L_law) = true := by decide +kernel
set_option maxRecDepth 100000 in
theorem okl_11 : ((ct_L_law.drop 385).take 35).all (okE 198 mt_L_law) = true := by decide +kernel
set_option maxRecDepth 100000 in
theorem okl_12 : ((ct_L_law.drop 420).take 35).all (okE 198 mt_L_law) = true := by decide +kernel
set_option maxRecDepth 100000 in
theorem okl_13 : ((ct_L_law.drop 455).take 35).all (okE 198 mt_L_law) = true := by decide +kernel
set_option maxRecDepth 100000 in
theorem okl_14 : ((ct_L_law.drop 490).take 35).all (okE 198 mt_L_law) = true := by decide +kernel
set_option maxRecDepth 100000 in
theorem okl_15 : ((ct_L_law.drop 525).take 35).all (okE 198 mt_L_law) = true := by decide +kernel
set_option maxRecDepth 100000 in
theorem okl_16 : ((ct_L_law.drop 560).take 35).all (okE 198 mt_L_law) = true := by decide +kernel
set_option maxRecDepth 100000 in
theorem okl_17 : ((ct_L_law.drop 595).take 35).all (okE 198 mt_L_law) = true := by decide +kernel
