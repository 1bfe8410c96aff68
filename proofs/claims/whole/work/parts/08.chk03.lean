set_option maxRecDepth 1000000 in
theorem zchk_3 : ((List.range 57).drop 47).all (fun mi => (zcode mi).all (zokb mi)) = true := by decide +kernel
