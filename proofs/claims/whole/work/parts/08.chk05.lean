set_option maxRecDepth 1000000 in
theorem zchk_5 : ((List.range 82).drop 69).all (fun mi => (zcode mi).all (zokb mi)) = true := by decide +kernel
