set_option maxRecDepth 1000000 in
theorem zchk_law_22 : (((zcode 283).drop 880).take 40).all (zokb 283) = true := by decide +kernel
set_option maxRecDepth 1000000 in
theorem zchk_law_23 : (((zcode 283).drop 920).take 40).all (zokb 283) = true := by decide +kernel
