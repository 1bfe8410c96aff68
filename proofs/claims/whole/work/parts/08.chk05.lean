set_option maxRecDepth 1000000 in
theorem zchk_5 : ((List.range 167).drop 143).all (fun mi => (zcode mi).all (zokb mi)) = true := by decide +kernel
