set_option maxRecDepth 1000000 in
theorem zchk_law_20 : (((zcode 283).drop 800).take 40).all (zokb 283) = true := by decide +kernel
set_option maxRecDepth 1000000 in
theorem zchk_law_21 : (((zcode 283).drop 840).take 40).all (zokb 283) = true := by decide +kernel
