set_option maxRecDepth 1000000 in
theorem zchk_law_28 : (((zcode 283).drop 1120).take 40).all (zokb 283) = true := by decide +kernel
set_option maxRecDepth 1000000 in
theorem zchk_law_29 : (((zcode 283).drop 1160).take 40).all (zokb 283) = true := by decide +kernel
