set_option maxRecDepth 1000000 in
theorem zchk_21 : ((List.range 276).drop 262).all (fun mi => (zcode mi).all (zokb mi)) = true := by decide +kernel
