set_option maxRecDepth 1000000 in
theorem zchk_10 : ((List.range 283).drop 257).all (fun mi => (zcode mi).all (zokb mi)) = true := by decide +kernel
