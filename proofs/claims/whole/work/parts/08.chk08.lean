set_option maxRecDepth 1000000 in
theorem zchk_8 : ((List.range 117).drop 105).all (fun mi => (zcode mi).all (zokb mi)) = true := by decide +kernel
