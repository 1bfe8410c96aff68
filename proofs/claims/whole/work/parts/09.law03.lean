set_option maxRecDepth 1000000 in
theorem zchk_law_6 : (((zcode 283).drop 240).take 40).all (zokb 283) = true := by decide +kernel
set_option maxRecDepth 1000000 in
theorem zchk_law_7 : (((zcode 283).drop 280).take 40).all (zokb 283) = true := by decide +kernel
