set_option maxRecDepth 1000000 in
theorem zchk_8 : ((List.range 235).drop 209).all (fun mi => (zcode mi).all (zokb mi)) = true := by decide +kernel
