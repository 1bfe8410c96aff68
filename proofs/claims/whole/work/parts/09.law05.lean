set_option maxRecDepth 1000000 in
theorem zchk_law_10 : (((zcode 283).drop 400).take 40).all (zokb 283) = true := by decide +kernel
set_option maxRecDepth 1000000 in
theorem zchk_law_11 : (((zcode 283).drop 440).take 40).all (zokb 283) = true := by decide +kernel
