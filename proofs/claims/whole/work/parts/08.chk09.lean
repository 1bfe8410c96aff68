set_option maxRecDepth 1000000 in
theorem zchk_9 : ((List.range 134).drop 117).all (fun mi => (zcode mi).all (zokb mi)) = true := by decide +kernel
