set_option maxRecDepth 1000000 in
theorem zchk_law_18 : (((zcode 283).drop 720).take 40).all (zokb 283) = true := by decide +kernel
set_option maxRecDepth 1000000 in
theorem zchk_law_19 : (((zcode 283).drop 760).take 40).all (zokb 283) = true := by decide +kernel
