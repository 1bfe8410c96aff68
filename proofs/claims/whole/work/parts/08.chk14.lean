set_option maxRecDepth 1000000 in
theorem zchk_14 : ((List.range 191).drop 183).all (fun mi => (zcode mi).all (zokb mi)) = true := by decide +kernel
