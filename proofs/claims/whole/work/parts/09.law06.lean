set_option maxRecDepth 1000000 in
theorem zchk_law_12 : (((zcode 283).drop 480).take 40).all (zokb 283) = true := by decide +kernel
set_option maxRecDepth 1000000 in
theorem zchk_law_13 : (((zcode 283).drop 520).take 40).all (zokb 283) = true := by decide +kernel
