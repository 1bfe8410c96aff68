set_option maxRecDepth 1000000 in
theorem zchk_law_16 : (((zcode 283).drop 640).take 40).all (zokb 283) = true := by decide +kernel
set_option maxRecDepth 1000000 in
theorem zchk_law_17 : (((zcode 283).drop 680).take 40).all (zokb 283) = true := by decide +kernel
