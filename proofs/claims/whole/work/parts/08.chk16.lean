set_option maxRecDepth 1000000 in
theorem zchk_16 : ((List.range 213).drop 197).all (fun mi => (zcode mi).all (zokb mi)) = true := by decide +kernel
