set_option maxRecDepth 1000000 in
theorem zchk_6 : ((List.range 90).drop 82).all (fun mi => (zcode mi).all (zokb mi)) = true := by decide +kernel
