set_option maxRecDepth 1000000 in
theorem zchk_2 : ((List.range 47).drop 32).all (fun mi => (zcode mi).all (zokb mi)) = true := by decide +kernel
