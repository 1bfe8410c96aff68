set_option maxRecDepth 1000000 in
theorem zchk_law_14 : (((zcode 283).drop 560).take 40).all (zokb 283) = true := by decide +kernel
set_option maxRecDepth 1000000 in
theorem zchk_law_15 : (((zcode 283).drop 600).take 40).all (zokb 283) = true := by decide +kernel
