/-! The check of the law's own code, in pieces. -/
set_option maxRecDepth 100000 in
theorem okl_18 : ((ct_L_law.drop 630).take 35).all (okE 198 mt_L_law) = true := by decide +kernel
set_option maxRecDepth 100000 in
theorem okl_19 : ((ct_L_law.drop 665).take 35).all (okE 198 mt_L_law) = true := by decide +kernel
set_option maxRecDepth 100000 in
theorem okl_20 : ((ct_L_law.drop 700).take 35).all (okE 198 mt_L_law) = true := by decide +kernel
set_option maxRecDepth 100000 in
theorem okl_21 : ((ct_L_law.drop 735).take 35).all (okE 198 mt_L_law) = true := by decide +kernel
set_option maxRecDepth 100000 in
theorem okl_22 : ((ct_L_law.drop 770).take 35).all (okE 198 mt_L_law) = true := by decide +kernel
set_option maxRecDepth 100000 in
theorem okl_23 : ((ct_L_law.drop 805).take 35).all (okE 198 mt_L_law) = true := by decide +kernel
set_option maxRecDepth 100000 in
theorem okl_24 : ((ct_L_law.drop 840).take 35).all (okE 198 mt_L_law) = true := by decide +kernel
set_option maxRecDepth 100000 in
theorem okl_25 : ((ct_L_law.drop 875).take 35).all (okE 198 mt_L_law) = true := by decide +kernel
set_option maxRecDepth 100000 in
theorem okl_26 : ((ct_L_law.drop 910).take 35).all (okE 198 mt_L_law) = true := by decide +kernel
set_option maxRecDepth 100000 in
theorem okl_27 : ((ct_L_law.drop 945).take 35).all (okE 198 mt_L_law) = true := by decide +kernel
