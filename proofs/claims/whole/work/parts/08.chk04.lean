set_option maxRecDepth 1000000 in
theorem zchk_4 : ((List.range 69).drop 57).all (fun mi => (zcode mi).all (zokb mi)) = true := by decide +kernel
