set_option maxRecDepth 1000000 in
theorem zchk_18 : ((List.range 240).drop 228).all (fun mi => (zcode mi).all (zokb mi)) = true := by decide +kernel
