set_option maxRecDepth 1000000 in
theorem zchk_20 : ((List.range 262).drop 250).all (fun mi => (zcode mi).all (zokb mi)) = true := by decide +kernel
