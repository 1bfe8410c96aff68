set_option maxRecDepth 1000000 in
theorem zchk_12 : ((List.range 172).drop 160).all (fun mi => (zcode mi).all (zokb mi)) = true := by decide +kernel
