set_option maxRecDepth 1000000 in
theorem zchk_law_2 : (((zcode 283).drop 80).take 40).all (zokb 283) = true := by decide +kernel
set_option maxRecDepth 1000000 in
theorem zchk_law_3 : (((zcode 283).drop 120).take 40).all (zokb 283) = true := by decide +kernel
