set_option maxRecDepth 1000000 in
theorem zchk_law_0 : (((zcode 283).drop 0).take 40).all (zokb 283) = true := by decide +kernel
set_option maxRecDepth 1000000 in
theorem zchk_law_1 : (((zcode 283).drop 40).take 40).all (zokb 283) = true := by decide +kernel
