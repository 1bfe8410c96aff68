set_option maxRecDepth 1000000 in
theorem zchk_law_4 : (((zcode 283).drop 160).take 40).all (zokb 283) = true := by decide +kernel
set_option maxRecDepth 1000000 in
theorem zchk_law_5 : (((zcode 283).drop 200).take 40).all (zokb 283) = true := by decide +kernel
