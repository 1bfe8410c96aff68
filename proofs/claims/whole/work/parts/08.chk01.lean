set_option maxRecDepth 1000000 in
theorem zchk_1 : ((List.range 32).drop 24).all (fun mi => (zcode mi).all (zokb mi)) = true := by decide +kernel
