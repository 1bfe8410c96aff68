set_option maxRecDepth 1000000 in
theorem zchk_15 : ((List.range 197).drop 191).all (fun mi => (zcode mi).all (zokb mi)) = true := by decide +kernel
