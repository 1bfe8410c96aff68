set_option maxRecDepth 1000000 in
theorem zchk_0 : ((List.range 24).drop 0).all (fun mi => (zcode mi).all (zokb mi)) = true := by decide +kernel
