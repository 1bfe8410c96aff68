set_option maxRecDepth 1000000 in
theorem zchk_3 : ((List.range 111).drop 85).all (fun mi => (zcode mi).all (zokb mi)) = true := by decide +kernel
