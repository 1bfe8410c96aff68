set_option maxRecDepth 1000000 in
theorem zchk_2 : ((List.range 85).drop 62).all (fun mi => (zcode mi).all (zokb mi)) = true := by decide +kernel
