set_option maxRecDepth 1000000 in
theorem zchk_law_26 : (((zcode 283).drop 1040).take 40).all (zokb 283) = true := by decide +kernel
set_option maxRecDepth 1000000 in
theorem zchk_law_27 : (((zcode 283).drop 1080).take 40).all (zokb 283) = true := by decide +kernel
