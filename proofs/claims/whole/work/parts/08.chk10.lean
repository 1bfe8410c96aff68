set_option maxRecDepth 1000000 in
theorem zchk_10 : ((List.range 149).drop 134).all (fun mi => (zcode mi).all (zokb mi)) = true := by decide +kernel
