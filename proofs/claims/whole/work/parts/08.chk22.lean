set_option maxRecDepth 1000000 in
theorem zchk_22 : ((List.range 283).drop 276).all (fun mi => (zcode mi).all (zokb mi)) = true := by decide +kernel
