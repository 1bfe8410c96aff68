set_option maxRecDepth 1000000 in
theorem zchk_11 : ((List.range 160).drop 149).all (fun mi => (zcode mi).all (zokb mi)) = true := by decide +kernel
