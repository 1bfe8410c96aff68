set_option maxRecDepth 1000000 in
theorem zchk_19 : ((List.range 250).drop 240).all (fun mi => (zcode mi).all (zokb mi)) = true := by decide +kernel
