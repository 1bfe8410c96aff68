set_option maxRecDepth 1000000 in
theorem zchk_9 : ((List.range 257).drop 235).all (fun mi => (zcode mi).all (zokb mi)) = true := by decide +kernel
