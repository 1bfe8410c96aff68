set_option maxRecDepth 100000 in
theorem zmp_b4 : ((zmp.drop 240).take 80).all (fun e => (match znestk e.2.2.2.1 with
  | true => zwn e.2.2.2.2 (zml e.1 e.2.1 e.2.2.1 e.2.2.2.1)
  | false => zwd e.2.2.2.2 (zml e.1 e.2.1 e.2.2.1 e.2.2.2.1)) && zmw e.2.2.1 e.2.2.2.1) = true := by decide +kernel
