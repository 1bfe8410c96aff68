set_option maxRecDepth 1000000 in
theorem zchk_law_24 : (((zcode 283).drop 960).take 40).all (zokb 283) = true := by decide +kernel
set_option maxRecDepth 1000000 in
theorem zchk_law_25 : (((zcode 283).drop 1000).take 40).all (zokb 283) = true := by decide +kernel
