set_option maxRecDepth 1000000 in
theorem zchk_law_8 : (((zcode 283).drop 320).take 40).all (zokb 283) = true := by decide +kernel
set_option maxRecDepth 1000000 in
theorem zchk_law_9 : (((zcode 283).drop 360).take 40).all (zokb 283) = true := by decide +kernel
