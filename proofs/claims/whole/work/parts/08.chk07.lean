set_option maxRecDepth 1000000 in
theorem zchk_7 : ((List.range 105).drop 90).all (fun mi => (zcode mi).all (zokb mi)) = true := by decide +kernel
