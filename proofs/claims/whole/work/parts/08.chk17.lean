set_option maxRecDepth 1000000 in
theorem zchk_17 : ((List.range 228).drop 213).all (fun mi => (zcode mi).all (zokb mi)) = true := by decide +kernel
