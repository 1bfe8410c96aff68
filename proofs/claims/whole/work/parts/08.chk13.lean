set_option maxRecDepth 1000000 in
theorem zchk_13 : ((List.range 183).drop 172).all (fun mi => (zcode mi).all (zokb mi)) = true := by decide +kernel
