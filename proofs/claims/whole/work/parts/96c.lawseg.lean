/-! the law: cases of its switch, in pieces -/
section LAWSEG
variable {xs : List Int32} {Q : zQ} {i : Nat} {t : Bool} {IL : zIL} {M : zM}
set_option maxRecDepth 100000 in
theorem lA_26 (hl : xs.length ≤ 3072) (hi : i + 6 ≤ xs.length) (hh : gL xs Q 1181 [.retAddr 1, .ref 0, .ref 145, .int (nI i)] [.ref 0] M) : gL xs Q 1180 [.retAddr 1, .ref 0, .ref 145, .int (nI i)] [] M := by
  exact zseg (zcall_m xs 100) 4 [1181] hh
set_option maxRecDepth 100000 in
theorem lB_26 (hh : zcall xs 100 113 (zFx t, IL) [.ref 0] (zkI (zFx t) fun IL1 y => gL xs Q 1184 [.retAddr 1, .ref 0, .ref 145, .int (nI i)] [.int y] (zFx t, IL1))) : gL xs Q 1181 [.retAddr 1, .ref 0, .ref 145, .int (nI i)] [.ref 0] (zFx t, IL) := zseg (zcall_m xs 100) 3 [1184] hh
set_option maxRecDepth 100000 in
theorem lC_26 {y : Int32} (hl : xs.length ≤ 3072) (hi : i + 6 ≤ xs.length) (hh : gL xs Q 1185 [.retAddr 1, .ref 0, .ref 145, .int (nI i)] [.ref 145, .int y] M) : gL xs Q 1184 [.retAddr 1, .ref 0, .ref 145, .int (nI i)] [.int y] M := by
  exact zseg (zcall_m xs 100) 4 [1185] hh
set_option maxRecDepth 100000 in
theorem lD_26 {y : Int32} (hh : zcall xs 100 254 (zFx t, IL) [.ref 145] (zkI (zFx t) fun IL1 y2 => gL xs Q 1188 [.retAddr 1, .ref 0, .ref 145, .int (nI i)] [.int y2, .int y] (zFx t, IL1))) : gL xs Q 1185 [.retAddr 1, .ref 0, .ref 145, .int (nI i)] [.ref 145, .int y] (zFx t, IL) := zseg (zcall_m xs 100) 3 [1188] hh
set_option maxRecDepth 100000 in
theorem lE_26 {y y2 : Int32} (hh : zif2 (decide ((y : Int32) = y2)) (gL xs Q 1819 [.retAddr 1, .ref 0, .ref 145, .int (nI i)] [] M) (Q M (some (.int 0)))) : gL xs Q 1188 [.retAddr 1, .ref 0, .ref 145, .int (nI i)] [.int y2, .int y] M := zseg (zcall_m xs 100) 6 [1819] hh
set_option maxRecDepth 100000 in
theorem lA_27 (hl : xs.length ≤ 3072) (hi : i + 6 ≤ xs.length) (hh : gL xs Q 1212 [.retAddr 1, .ref 0, .ref 145, .int (nI i)] [.int (ybo (xs.getD (i + 2) 0)), .int (xs.getD (i + 1) 0), .ref 0] M) : gL xs Q 1193 [.retAddr 1, .ref 0, .ref 145, .int (nI i)] [] M := by
  have e1 : nI i + 1 = nI (i + 1) := nI_add i 1
  have c1 : (nI (i + 1)).toNatClampNeg = i + 1 := ycl (by omega)
  have e2 : nI i + 2 = nI (i + 2) := nI_add i 2
  have c2 : (nI (i + 2)).toNatClampNeg = i + 2 := ycl (by omega)
  by_cases z : xs.getD (i + 2) 0 = 0
  · rw [ybo_0 z] at hh
    have r : (zix (nI i + 1) xs.length (zix (nI i + 2) xs.length (zif2 (decide ((xs.getD (nI i + 2).toNatClampNeg 0 : Int32) = 0)) (gL xs Q 1212 [.retAddr 1, .ref 0, .ref 145, .int (nI i)] [.int 0, .int (xs.getD (nI i + 1).toNatClampNeg 0), .ref 0] M) (gL xs Q 1212 [.retAddr 1, .ref 0, .ref 145, .int (nI i)] [.int 1, .int (xs.getD (nI i + 1).toNatClampNeg 0), .ref 0] M)))) := by
      rw [e1, e2, c1, c2]
      exact (zix_n (by omega) (by omega) (zix_n (by omega) (by omega) (zdec (fun _ => hh) (fun q => absurd z q))))
    exact zseg (zcall_m xs 100) 18 [1212] r
  · rw [ybo_1 z] at hh
    have r : (zix (nI i + 1) xs.length (zix (nI i + 2) xs.length (zif2 (decide ((xs.getD (nI i + 2).toNatClampNeg 0 : Int32) = 0)) (gL xs Q 1212 [.retAddr 1, .ref 0, .ref 145, .int (nI i)] [.int 0, .int (xs.getD (nI i + 1).toNatClampNeg 0), .ref 0] M) (gL xs Q 1212 [.retAddr 1, .ref 0, .ref 145, .int (nI i)] [.int 1, .int (xs.getD (nI i + 1).toNatClampNeg 0), .ref 0] M)))) := by
      rw [e1, e2, c1, c2]
      exact (zix_n (by omega) (by omega) (zix_n (by omega) (by omega) (zdec (fun q => absurd q z) (fun _ => hh))))
    exact zseg (zcall_m xs 100) 18 [1212] r
set_option maxRecDepth 100000 in
theorem lB_27 {v1 v2 : Value} (hh : zcall xs 100 114 (zFx t, IL) [.ref 0, v1, v2] (zkI (zFx t) fun IL1 y => gL xs Q 1215 [.retAddr 1, .ref 0, .ref 145, .int (nI i)] [.int y] (zFx t, IL1))) : gL xs Q 1212 [.retAddr 1, .ref 0, .ref 145, .int (nI i)] [v2, v1, .ref 0] (zFx t, IL) := zseg (zcall_m xs 100) 3 [1215] hh
set_option maxRecDepth 100000 in
theorem lC_27 {y : Int32} (hl : xs.length ≤ 3072) (hi : i + 6 ≤ xs.length) (hh : gL xs Q 1234 [.retAddr 1, .ref 0, .ref 145, .int (nI i)] [.int (ybo (xs.getD (i + 2) 0)), .int (xs.getD (i + 1) 0), .ref 145, .int y] M) : gL xs Q 1215 [.retAddr 1, .ref 0, .ref 145, .int (nI i)] [.int y] M := by
  have e1 : nI i + 1 = nI (i + 1) := nI_add i 1
  have c1 : (nI (i + 1)).toNatClampNeg = i + 1 := ycl (by omega)
  have e2 : nI i + 2 = nI (i + 2) := nI_add i 2
  have c2 : (nI (i + 2)).toNatClampNeg = i + 2 := ycl (by omega)
  by_cases z : xs.getD (i + 2) 0 = 0
  · rw [ybo_0 z] at hh
    have r : (zix (nI i + 1) xs.length (zix (nI i + 2) xs.length (zif2 (decide ((xs.getD (nI i + 2).toNatClampNeg 0 : Int32) = 0)) (gL xs Q 1234 [.retAddr 1, .ref 0, .ref 145, .int (nI i)] [.int 0, .int (xs.getD (nI i + 1).toNatClampNeg 0), .ref 145, .int y] M) (gL xs Q 1234 [.retAddr 1, .ref 0, .ref 145, .int (nI i)] [.int 1, .int (xs.getD (nI i + 1).toNatClampNeg 0), .ref 145, .int y] M)))) := by
      rw [e1, e2, c1, c2]
      exact (zix_n (by omega) (by omega) (zix_n (by omega) (by omega) (zdec (fun _ => hh) (fun q => absurd z q))))
    exact zseg (zcall_m xs 100) 18 [1234] r
  · rw [ybo_1 z] at hh
    have r : (zix (nI i + 1) xs.length (zix (nI i + 2) xs.length (zif2 (decide ((xs.getD (nI i + 2).toNatClampNeg 0 : Int32) = 0)) (gL xs Q 1234 [.retAddr 1, .ref 0, .ref 145, .int (nI i)] [.int 0, .int (xs.getD (nI i + 1).toNatClampNeg 0), .ref 145, .int y] M) (gL xs Q 1234 [.retAddr 1, .ref 0, .ref 145, .int (nI i)] [.int 1, .int (xs.getD (nI i + 1).toNatClampNeg 0), .ref 145, .int y] M)))) := by
      rw [e1, e2, c1, c2]
      exact (zix_n (by omega) (by omega) (zix_n (by omega) (by omega) (zdec (fun q => absurd q z) (fun _ => hh))))
    exact zseg (zcall_m xs 100) 18 [1234] r
set_option maxRecDepth 100000 in
theorem lD_27 {y : Int32} {v1 v2 : Value} (hh : zcall xs 100 256 (zFx t, IL) [.ref 145, v1, v2] (zkI (zFx t) fun IL1 y2 => gL xs Q 1237 [.retAddr 1, .ref 0, .ref 145, .int (nI i)] [.int y2, .int y] (zFx t, IL1))) : gL xs Q 1234 [.retAddr 1, .ref 0, .ref 145, .int (nI i)] [v2, v1, .ref 145, .int y] (zFx t, IL) := zseg (zcall_m xs 100) 3 [1237] hh
set_option maxRecDepth 100000 in
theorem lE_27 {y y2 : Int32} (hh : zif2 (decide ((y : Int32) = y2)) (gL xs Q 1819 [.retAddr 1, .ref 0, .ref 145, .int (nI i)] [] M) (Q M (some (.int 0)))) : gL xs Q 1237 [.retAddr 1, .ref 0, .ref 145, .int (nI i)] [.int y2, .int y] M := zseg (zcall_m xs 100) 6 [1819] hh
set_option maxRecDepth 100000 in
theorem lA_28 (hl : xs.length ≤ 3072) (hi : i + 6 ≤ xs.length) (hh : gL xs Q 1261 [.retAddr 1, .ref 0, .ref 145, .int (nI i)] [.int (xs.getD (i + 2) 0), .int (ybo (xs.getD (i + 1) 0)), .ref 0] M) : gL xs Q 1242 [.retAddr 1, .ref 0, .ref 145, .int (nI i)] [] M := by
  have e1 : nI i + 1 = nI (i + 1) := nI_add i 1
  have c1 : (nI (i + 1)).toNatClampNeg = i + 1 := ycl (by omega)
  have e2 : nI i + 2 = nI (i + 2) := nI_add i 2
  have c2 : (nI (i + 2)).toNatClampNeg = i + 2 := ycl (by omega)
  by_cases z : xs.getD (i + 1) 0 = 0
  · rw [ybo_0 z] at hh
    have r : (zix (nI i + 1) xs.length (zif2 (decide ((xs.getD (nI i + 1).toNatClampNeg 0 : Int32) = 0)) (zix (nI i + 2) xs.length (gL xs Q 1261 [.retAddr 1, .ref 0, .ref 145, .int (nI i)] [.int (xs.getD (nI i + 2).toNatClampNeg 0), .int 0, .ref 0] M)) (zix (nI i + 2) xs.length (gL xs Q 1261 [.retAddr 1, .ref 0, .ref 145, .int (nI i)] [.int (xs.getD (nI i + 2).toNatClampNeg 0), .int 1, .ref 0] M)))) := by
      rw [e1, e2, c1, c2]
      exact (zix_n (by omega) (by omega) (zdec (fun _ => (zix_n (by omega) (by omega) hh)) (fun q => absurd z q)))
    exact zseg (zcall_m xs 100) 18 [1261] r
  · rw [ybo_1 z] at hh
    have r : (zix (nI i + 1) xs.length (zif2 (decide ((xs.getD (nI i + 1).toNatClampNeg 0 : Int32) = 0)) (zix (nI i + 2) xs.length (gL xs Q 1261 [.retAddr 1, .ref 0, .ref 145, .int (nI i)] [.int (xs.getD (nI i + 2).toNatClampNeg 0), .int 0, .ref 0] M)) (zix (nI i + 2) xs.length (gL xs Q 1261 [.retAddr 1, .ref 0, .ref 145, .int (nI i)] [.int (xs.getD (nI i + 2).toNatClampNeg 0), .int 1, .ref 0] M)))) := by
      rw [e1, e2, c1, c2]
      exact (zix_n (by omega) (by omega) (zdec (fun q => absurd q z) (fun _ => (zix_n (by omega) (by omega) hh))))
    exact zseg (zcall_m xs 100) 18 [1261] r
set_option maxRecDepth 100000 in
theorem lB_28 {v1 v2 : Value} (hh : zcall xs 100 115 (zFx t, IL) [.ref 0, v1, v2] (zkI (zFx t) fun IL1 y => gL xs Q 1264 [.retAddr 1, .ref 0, .ref 145, .int (nI i)] [.int y] (zFx t, IL1))) : gL xs Q 1261 [.retAddr 1, .ref 0, .ref 145, .int (nI i)] [v2, v1, .ref 0] (zFx t, IL) := zseg (zcall_m xs 100) 3 [1264] hh
set_option maxRecDepth 100000 in
theorem lC_28 {y : Int32} (hl : xs.length ≤ 3072) (hi : i + 6 ≤ xs.length) (hh : gL xs Q 1283 [.retAddr 1, .ref 0, .ref 145, .int (nI i)] [.int (xs.getD (i + 2) 0), .int (ybo (xs.getD (i + 1) 0)), .ref 145, .int y] M) : gL xs Q 1264 [.retAddr 1, .ref 0, .ref 145, .int (nI i)] [.int y] M := by
  have e1 : nI i + 1 = nI (i + 1) := nI_add i 1
  have c1 : (nI (i + 1)).toNatClampNeg = i + 1 := ycl (by omega)
  have e2 : nI i + 2 = nI (i + 2) := nI_add i 2
  have c2 : (nI (i + 2)).toNatClampNeg = i + 2 := ycl (by omega)
  by_cases z : xs.getD (i + 1) 0 = 0
  · rw [ybo_0 z] at hh
    have r : (zix (nI i + 1) xs.length (zif2 (decide ((xs.getD (nI i + 1).toNatClampNeg 0 : Int32) = 0)) (zix (nI i + 2) xs.length (gL xs Q 1283 [.retAddr 1, .ref 0, .ref 145, .int (nI i)] [.int (xs.getD (nI i + 2).toNatClampNeg 0), .int 0, .ref 145, .int y] M)) (zix (nI i + 2) xs.length (gL xs Q 1283 [.retAddr 1, .ref 0, .ref 145, .int (nI i)] [.int (xs.getD (nI i + 2).toNatClampNeg 0), .int 1, .ref 145, .int y] M)))) := by
      rw [e1, e2, c1, c2]
      exact (zix_n (by omega) (by omega) (zdec (fun _ => (zix_n (by omega) (by omega) hh)) (fun q => absurd z q)))
    exact zseg (zcall_m xs 100) 18 [1283] r
  · rw [ybo_1 z] at hh
    have r : (zix (nI i + 1) xs.length (zif2 (decide ((xs.getD (nI i + 1).toNatClampNeg 0 : Int32) = 0)) (zix (nI i + 2) xs.length (gL xs Q 1283 [.retAddr 1, .ref 0, .ref 145, .int (nI i)] [.int (xs.getD (nI i + 2).toNatClampNeg 0), .int 0, .ref 145, .int y] M)) (zix (nI i + 2) xs.length (gL xs Q 1283 [.retAddr 1, .ref 0, .ref 145, .int (nI i)] [.int (xs.getD (nI i + 2).toNatClampNeg 0), .int 1, .ref 145, .int y] M)))) := by
      rw [e1, e2, c1, c2]
      exact (zix_n (by omega) (by omega) (zdec (fun q => absurd q z) (fun _ => (zix_n (by omega) (by omega) hh))))
    exact zseg (zcall_m xs 100) 18 [1283] r
set_option maxRecDepth 100000 in
theorem lD_28 {y : Int32} {v1 v2 : Value} (hh : zcall xs 100 257 (zFx t, IL) [.ref 145, v1, v2] (zkI (zFx t) fun IL1 y2 => gL xs Q 1286 [.retAddr 1, .ref 0, .ref 145, .int (nI i)] [.int y2, .int y] (zFx t, IL1))) : gL xs Q 1283 [.retAddr 1, .ref 0, .ref 145, .int (nI i)] [v2, v1, .ref 145, .int y] (zFx t, IL) := zseg (zcall_m xs 100) 3 [1286] hh
set_option maxRecDepth 100000 in
theorem lE_28 {y y2 : Int32} (hh : zif2 (decide ((y : Int32) = y2)) (gL xs Q 1819 [.retAddr 1, .ref 0, .ref 145, .int (nI i)] [] M) (Q M (some (.int 0)))) : gL xs Q 1286 [.retAddr 1, .ref 0, .ref 145, .int (nI i)] [.int y2, .int y] M := zseg (zcall_m xs 100) 6 [1819] hh
set_option maxRecDepth 100000 in
theorem lA_29 (hl : xs.length ≤ 3072) (hi : i + 6 ≤ xs.length) (hh : gL xs Q 1297 [.retAddr 1, .ref 0, .ref 145, .int (nI i)] [.int (xs.getD (i + 1) 0), .ref 0] M) : gL xs Q 1291 [.retAddr 1, .ref 0, .ref 145, .int (nI i)] [] M := by
  have e1 : nI i + 1 = nI (i + 1) := nI_add i 1
  have c1 : (nI (i + 1)).toNatClampNeg = i + 1 := ycl (by omega)
  have r : (zix (nI i + 1) xs.length (gL xs Q 1297 [.retAddr 1, .ref 0, .ref 145, .int (nI i)] [.int (xs.getD (nI i + 1).toNatClampNeg 0), .ref 0] M)) := by
    rw [e1, c1]
    exact (zix_n (by omega) (by omega) hh)
  exact zseg (zcall_m xs 100) 9 [1297] r
set_option maxRecDepth 100000 in
theorem lB_29 {v1 : Value} (hh : zcall xs 100 116 (zFx t, IL) [.ref 0, v1] (zkI (zFx t) fun IL1 y => gL xs Q 1300 [.retAddr 1, .ref 0, .ref 145, .int (nI i)] [.int y] (zFx t, IL1))) : gL xs Q 1297 [.retAddr 1, .ref 0, .ref 145, .int (nI i)] [v1, .ref 0] (zFx t, IL) := zseg (zcall_m xs 100) 3 [1300] hh
set_option maxRecDepth 100000 in
theorem lC_29 {y : Int32} (hl : xs.length ≤ 3072) (hi : i + 6 ≤ xs.length) (hh : gL xs Q 1306 [.retAddr 1, .ref 0, .ref 145, .int (nI i)] [.int (xs.getD (i + 1) 0), .ref 145, .int y] M) : gL xs Q 1300 [.retAddr 1, .ref 0, .ref 145, .int (nI i)] [.int y] M := by
  have e1 : nI i + 1 = nI (i + 1) := nI_add i 1
  have c1 : (nI (i + 1)).toNatClampNeg = i + 1 := ycl (by omega)
  have r : (zix (nI i + 1) xs.length (gL xs Q 1306 [.retAddr 1, .ref 0, .ref 145, .int (nI i)] [.int (xs.getD (nI i + 1).toNatClampNeg 0), .ref 145, .int y] M)) := by
    rw [e1, c1]
    exact (zix_n (by omega) (by omega) hh)
  exact zseg (zcall_m xs 100) 9 [1306] r
set_option maxRecDepth 100000 in
theorem lD_29 {y : Int32} {v1 : Value} (hh : zcall xs 100 240 (zFx t, IL) [.ref 145, v1] (zkI (zFx t) fun IL1 y2 => gL xs Q 1309 [.retAddr 1, .ref 0, .ref 145, .int (nI i)] [.int y2, .int y] (zFx t, IL1))) : gL xs Q 1306 [.retAddr 1, .ref 0, .ref 145, .int (nI i)] [v1, .ref 145, .int y] (zFx t, IL) := zseg (zcall_m xs 100) 3 [1309] hh
set_option maxRecDepth 100000 in
theorem lE_29 {y y2 : Int32} (hh : zif2 (decide ((y : Int32) = y2)) (gL xs Q 1819 [.retAddr 1, .ref 0, .ref 145, .int (nI i)] [] M) (Q M (some (.int 0)))) : gL xs Q 1309 [.retAddr 1, .ref 0, .ref 145, .int (nI i)] [.int y2, .int y] M := zseg (zcall_m xs 100) 6 [1819] hh
set_option maxRecDepth 100000 in
theorem lA_30 (hl : xs.length ≤ 3072) (hi : i + 6 ≤ xs.length) (hh : gL xs Q 1315 [.retAddr 1, .ref 0, .ref 145, .int (nI i)] [.ref 0] M) : gL xs Q 1314 [.retAddr 1, .ref 0, .ref 145, .int (nI i)] [] M := by
  exact zseg (zcall_m xs 100) 4 [1315] hh
set_option maxRecDepth 100000 in
theorem lB_30 (hh : zcall xs 100 117 (zFx t, IL) [.ref 0] (zkI (zFx t) fun IL1 y => gL xs Q 1318 [.retAddr 1, .ref 0, .ref 145, .int (nI i)] [.int y] (zFx t, IL1))) : gL xs Q 1315 [.retAddr 1, .ref 0, .ref 145, .int (nI i)] [.ref 0] (zFx t, IL) := zseg (zcall_m xs 100) 3 [1318] hh
set_option maxRecDepth 100000 in
theorem lC_30 {y : Int32} (hl : xs.length ≤ 3072) (hi : i + 6 ≤ xs.length) (hh : gL xs Q 1319 [.retAddr 1, .ref 0, .ref 145, .int (nI i)] [.ref 145, .int y] M) : gL xs Q 1318 [.retAddr 1, .ref 0, .ref 145, .int (nI i)] [.int y] M := by
  exact zseg (zcall_m xs 100) 4 [1319] hh
set_option maxRecDepth 100000 in
theorem lD_30 {y : Int32} (hh : zcall xs 100 242 (zFx t, IL) [.ref 145] (zkI (zFx t) fun IL1 y2 => gL xs Q 1322 [.retAddr 1, .ref 0, .ref 145, .int (nI i)] [.int y2, .int y] (zFx t, IL1))) : gL xs Q 1319 [.retAddr 1, .ref 0, .ref 145, .int (nI i)] [.ref 145, .int y] (zFx t, IL) := zseg (zcall_m xs 100) 3 [1322] hh
set_option maxRecDepth 100000 in
theorem lE_30 {y y2 : Int32} (hh : zif2 (decide ((y : Int32) = y2)) (gL xs Q 1819 [.retAddr 1, .ref 0, .ref 145, .int (nI i)] [] M) (Q M (some (.int 0)))) : gL xs Q 1322 [.retAddr 1, .ref 0, .ref 145, .int (nI i)] [.int y2, .int y] M := zseg (zcall_m xs 100) 6 [1819] hh
set_option maxRecDepth 100000 in
theorem lA_31 (hl : xs.length ≤ 3072) (hi : i + 6 ≤ xs.length) (hh : gL xs Q 1328 [.retAddr 1, .ref 0, .ref 145, .int (nI i)] [.ref 0] M) : gL xs Q 1327 [.retAddr 1, .ref 0, .ref 145, .int (nI i)] [] M := by
  exact zseg (zcall_m xs 100) 4 [1328] hh
set_option maxRecDepth 100000 in
theorem lB_31 (hh : zcall xs 100 118 (zFx t, IL) [.ref 0] (zkI (zFx t) fun IL1 y => gL xs Q 1331 [.retAddr 1, .ref 0, .ref 145, .int (nI i)] [.int y] (zFx t, IL1))) : gL xs Q 1328 [.retAddr 1, .ref 0, .ref 145, .int (nI i)] [.ref 0] (zFx t, IL) := zseg (zcall_m xs 100) 3 [1331] hh
set_option maxRecDepth 100000 in
theorem lC_31 {y : Int32} (hl : xs.length ≤ 3072) (hi : i + 6 ≤ xs.length) (hh : gL xs Q 1332 [.retAddr 1, .ref 0, .ref 145, .int (nI i)] [.ref 145, .int y] M) : gL xs Q 1331 [.retAddr 1, .ref 0, .ref 145, .int (nI i)] [.int y] M := by
  exact zseg (zcall_m xs 100) 4 [1332] hh
set_option maxRecDepth 100000 in
theorem lD_31 {y : Int32} (hh : zcall xs 100 252 (zFx t, IL) [.ref 145] (zkI (zFx t) fun IL1 y2 => gL xs Q 1335 [.retAddr 1, .ref 0, .ref 145, .int (nI i)] [.int y2, .int y] (zFx t, IL1))) : gL xs Q 1332 [.retAddr 1, .ref 0, .ref 145, .int (nI i)] [.ref 145, .int y] (zFx t, IL) := zseg (zcall_m xs 100) 3 [1335] hh
set_option maxRecDepth 100000 in
theorem lE_31 {y y2 : Int32} (hh : zif2 (decide ((y : Int32) = y2)) (gL xs Q 1819 [.retAddr 1, .ref 0, .ref 145, .int (nI i)] [] M) (Q M (some (.int 0)))) : gL xs Q 1335 [.retAddr 1, .ref 0, .ref 145, .int (nI i)] [.int y2, .int y] M := zseg (zcall_m xs 100) 6 [1819] hh
set_option maxRecDepth 100000 in
theorem lA_32 (hl : xs.length ≤ 3072) (hi : i + 6 ≤ xs.length) (hh : gL xs Q 1341 [.retAddr 1, .ref 0, .ref 145, .int (nI i)] [.ref 0] M) : gL xs Q 1340 [.retAddr 1, .ref 0, .ref 145, .int (nI i)] [] M := by
  exact zseg (zcall_m xs 100) 4 [1341] hh
set_option maxRecDepth 100000 in
theorem lB_32 (hh : zcall xs 100 119 (zFx t, IL) [.ref 0] (zkI (zFx t) fun IL1 y => gL xs Q 1344 [.retAddr 1, .ref 0, .ref 145, .int (nI i)] [.int y] (zFx t, IL1))) : gL xs Q 1341 [.retAddr 1, .ref 0, .ref 145, .int (nI i)] [.ref 0] (zFx t, IL) := zseg (zcall_m xs 100) 3 [1344] hh
set_option maxRecDepth 100000 in
theorem lC_32 {y : Int32} (hl : xs.length ≤ 3072) (hi : i + 6 ≤ xs.length) (hh : gL xs Q 1345 [.retAddr 1, .ref 0, .ref 145, .int (nI i)] [.ref 145, .int y] M) : gL xs Q 1344 [.retAddr 1, .ref 0, .ref 145, .int (nI i)] [.int y] M := by
  exact zseg (zcall_m xs 100) 4 [1345] hh
set_option maxRecDepth 100000 in
theorem lD_32 {y : Int32} (hh : zcall xs 100 258 (zFx t, IL) [.ref 145] (zkI (zFx t) fun IL1 y2 => gL xs Q 1348 [.retAddr 1, .ref 0, .ref 145, .int (nI i)] [.int y2, .int y] (zFx t, IL1))) : gL xs Q 1345 [.retAddr 1, .ref 0, .ref 145, .int (nI i)] [.ref 145, .int y] (zFx t, IL) := zseg (zcall_m xs 100) 3 [1348] hh
set_option maxRecDepth 100000 in
theorem lE_32 {y y2 : Int32} (hh : zif2 (decide ((y : Int32) = y2)) (gL xs Q 1819 [.retAddr 1, .ref 0, .ref 145, .int (nI i)] [] M) (Q M (some (.int 0)))) : gL xs Q 1348 [.retAddr 1, .ref 0, .ref 145, .int (nI i)] [.int y2, .int y] M := zseg (zcall_m xs 100) 6 [1819] hh
set_option maxRecDepth 100000 in
theorem lA_33 (hl : xs.length ≤ 3072) (hi : i + 6 ≤ xs.length) (hh : gL xs Q 1354 [.retAddr 1, .ref 0, .ref 145, .int (nI i)] [.ref 0] M) : gL xs Q 1353 [.retAddr 1, .ref 0, .ref 145, .int (nI i)] [] M := by
  exact zseg (zcall_m xs 100) 4 [1354] hh
set_option maxRecDepth 100000 in
theorem lB_33 (hh : zcall xs 100 120 (zFx t, IL) [.ref 0] (zkI (zFx t) fun IL1 y => gL xs Q 1357 [.retAddr 1, .ref 0, .ref 145, .int (nI i)] [.int y] (zFx t, IL1))) : gL xs Q 1354 [.retAddr 1, .ref 0, .ref 145, .int (nI i)] [.ref 0] (zFx t, IL) := zseg (zcall_m xs 100) 3 [1357] hh
set_option maxRecDepth 100000 in
theorem lC_33 {y : Int32} (hl : xs.length ≤ 3072) (hi : i + 6 ≤ xs.length) (hh : gL xs Q 1358 [.retAddr 1, .ref 0, .ref 145, .int (nI i)] [.ref 145, .int y] M) : gL xs Q 1357 [.retAddr 1, .ref 0, .ref 145, .int (nI i)] [.int y] M := by
  exact zseg (zcall_m xs 100) 4 [1358] hh
set_option maxRecDepth 100000 in
theorem lD_33 {y : Int32} (hh : zcall xs 100 253 (zFx t, IL) [.ref 145] (zkI (zFx t) fun IL1 y2 => gL xs Q 1361 [.retAddr 1, .ref 0, .ref 145, .int (nI i)] [.int y2, .int y] (zFx t, IL1))) : gL xs Q 1358 [.retAddr 1, .ref 0, .ref 145, .int (nI i)] [.ref 145, .int y] (zFx t, IL) := zseg (zcall_m xs 100) 3 [1361] hh
set_option maxRecDepth 100000 in
theorem lE_33 {y y2 : Int32} (hh : zif2 (decide ((y : Int32) = y2)) (gL xs Q 1819 [.retAddr 1, .ref 0, .ref 145, .int (nI i)] [] M) (Q M (some (.int 0)))) : gL xs Q 1361 [.retAddr 1, .ref 0, .ref 145, .int (nI i)] [.int y2, .int y] M := zseg (zcall_m xs 100) 6 [1819] hh
set_option maxRecDepth 100000 in
theorem lA_34 (hl : xs.length ≤ 3072) (hi : i + 6 ≤ xs.length) (hh : gL xs Q 1367 [.retAddr 1, .ref 0, .ref 145, .int (nI i)] [.ref 0] M) : gL xs Q 1366 [.retAddr 1, .ref 0, .ref 145, .int (nI i)] [] M := by
  exact zseg (zcall_m xs 100) 4 [1367] hh
set_option maxRecDepth 100000 in
theorem lB_34 (hh : zcall xs 100 121 (zFx t, IL) [.ref 0] (zkI (zFx t) fun IL1 y => gL xs Q 1370 [.retAddr 1, .ref 0, .ref 145, .int (nI i)] [.int y] (zFx t, IL1))) : gL xs Q 1367 [.retAddr 1, .ref 0, .ref 145, .int (nI i)] [.ref 0] (zFx t, IL) := zseg (zcall_m xs 100) 3 [1370] hh
set_option maxRecDepth 100000 in
theorem lC_34 {y : Int32} (hl : xs.length ≤ 3072) (hi : i + 6 ≤ xs.length) (hh : gL xs Q 1371 [.retAddr 1, .ref 0, .ref 145, .int (nI i)] [.ref 145, .int y] M) : gL xs Q 1370 [.retAddr 1, .ref 0, .ref 145, .int (nI i)] [.int y] M := by
  exact zseg (zcall_m xs 100) 4 [1371] hh
set_option maxRecDepth 100000 in
theorem lD_34 {y : Int32} (hh : zcall xs 100 259 (zFx t, IL) [.ref 145] (zkI (zFx t) fun IL1 y2 => gL xs Q 1374 [.retAddr 1, .ref 0, .ref 145, .int (nI i)] [.int y2, .int y] (zFx t, IL1))) : gL xs Q 1371 [.retAddr 1, .ref 0, .ref 145, .int (nI i)] [.ref 145, .int y] (zFx t, IL) := zseg (zcall_m xs 100) 3 [1374] hh
set_option maxRecDepth 100000 in
theorem lE_34 {y y2 : Int32} (hh : zif2 (decide ((y : Int32) = y2)) (gL xs Q 1819 [.retAddr 1, .ref 0, .ref 145, .int (nI i)] [] M) (Q M (some (.int 0)))) : gL xs Q 1374 [.retAddr 1, .ref 0, .ref 145, .int (nI i)] [.int y2, .int y] M := zseg (zcall_m xs 100) 6 [1819] hh
set_option maxRecDepth 100000 in
theorem lA_35 (hl : xs.length ≤ 3072) (hi : i + 6 ≤ xs.length) (hh : gL xs Q 1380 [.retAddr 1, .ref 0, .ref 145, .int (nI i)] [.ref 0] M) : gL xs Q 1379 [.retAddr 1, .ref 0, .ref 145, .int (nI i)] [] M := by
  exact zseg (zcall_m xs 100) 4 [1380] hh
set_option maxRecDepth 100000 in
theorem lB_35 (hh : zcall xs 100 122 (zFx t, IL) [.ref 0] (zkI (zFx t) fun IL1 y => gL xs Q 1383 [.retAddr 1, .ref 0, .ref 145, .int (nI i)] [.int y] (zFx t, IL1))) : gL xs Q 1380 [.retAddr 1, .ref 0, .ref 145, .int (nI i)] [.ref 0] (zFx t, IL) := zseg (zcall_m xs 100) 3 [1383] hh
set_option maxRecDepth 100000 in
theorem lC_35 {y : Int32} (hl : xs.length ≤ 3072) (hi : i + 6 ≤ xs.length) (hh : gL xs Q 1384 [.retAddr 1, .ref 0, .ref 145, .int (nI i)] [.ref 145, .int y] M) : gL xs Q 1383 [.retAddr 1, .ref 0, .ref 145, .int (nI i)] [.int y] M := by
  exact zseg (zcall_m xs 100) 4 [1384] hh
set_option maxRecDepth 100000 in
theorem lD_35 {y : Int32} (hh : zcall xs 100 260 (zFx t, IL) [.ref 145] (zkI (zFx t) fun IL1 y2 => gL xs Q 1387 [.retAddr 1, .ref 0, .ref 145, .int (nI i)] [.int y2, .int y] (zFx t, IL1))) : gL xs Q 1384 [.retAddr 1, .ref 0, .ref 145, .int (nI i)] [.ref 145, .int y] (zFx t, IL) := zseg (zcall_m xs 100) 3 [1387] hh
set_option maxRecDepth 100000 in
theorem lE_35 {y y2 : Int32} (hh : zif2 (decide ((y : Int32) = y2)) (gL xs Q 1819 [.retAddr 1, .ref 0, .ref 145, .int (nI i)] [] M) (Q M (some (.int 0)))) : gL xs Q 1387 [.retAddr 1, .ref 0, .ref 145, .int (nI i)] [.int y2, .int y] M := zseg (zcall_m xs 100) 6 [1819] hh
set_option maxRecDepth 100000 in
theorem lA_36 (hl : xs.length ≤ 3072) (hi : i + 6 ≤ xs.length) (hh : gL xs Q 1393 [.retAddr 1, .ref 0, .ref 145, .int (nI i)] [.ref 0] M) : gL xs Q 1392 [.retAddr 1, .ref 0, .ref 145, .int (nI i)] [] M := by
  exact zseg (zcall_m xs 100) 4 [1393] hh
set_option maxRecDepth 100000 in
theorem lB_36 (hh : zcall xs 100 123 (zFx t, IL) [.ref 0] (zkI (zFx t) fun IL1 y => gL xs Q 1396 [.retAddr 1, .ref 0, .ref 145, .int (nI i)] [.int y] (zFx t, IL1))) : gL xs Q 1393 [.retAddr 1, .ref 0, .ref 145, .int (nI i)] [.ref 0] (zFx t, IL) := zseg (zcall_m xs 100) 3 [1396] hh
set_option maxRecDepth 100000 in
theorem lC_36 {y : Int32} (hl : xs.length ≤ 3072) (hi : i + 6 ≤ xs.length) (hh : gL xs Q 1397 [.retAddr 1, .ref 0, .ref 145, .int (nI i)] [.ref 145, .int y] M) : gL xs Q 1396 [.retAddr 1, .ref 0, .ref 145, .int (nI i)] [.int y] M := by
  exact zseg (zcall_m xs 100) 4 [1397] hh
set_option maxRecDepth 100000 in
theorem lD_36 {y : Int32} (hh : zcall xs 100 261 (zFx t, IL) [.ref 145] (zkI (zFx t) fun IL1 y2 => gL xs Q 1400 [.retAddr 1, .ref 0, .ref 145, .int (nI i)] [.int y2, .int y] (zFx t, IL1))) : gL xs Q 1397 [.retAddr 1, .ref 0, .ref 145, .int (nI i)] [.ref 145, .int y] (zFx t, IL) := zseg (zcall_m xs 100) 3 [1400] hh
set_option maxRecDepth 100000 in
theorem lE_36 {y y2 : Int32} (hh : zif2 (decide ((y : Int32) = y2)) (gL xs Q 1819 [.retAddr 1, .ref 0, .ref 145, .int (nI i)] [] M) (Q M (some (.int 0)))) : gL xs Q 1400 [.retAddr 1, .ref 0, .ref 145, .int (nI i)] [.int y2, .int y] M := zseg (zcall_m xs 100) 6 [1819] hh
set_option maxRecDepth 100000 in
theorem lA_37 (hl : xs.length ≤ 3072) (hi : i + 6 ≤ xs.length) (hh : gL xs Q 1406 [.retAddr 1, .ref 0, .ref 145, .int (nI i)] [.ref 0] M) : gL xs Q 1405 [.retAddr 1, .ref 0, .ref 145, .int (nI i)] [] M := by
  exact zseg (zcall_m xs 100) 4 [1406] hh
set_option maxRecDepth 100000 in
theorem lB_37 (hh : zcall xs 100 124 (zFx t, IL) [.ref 0] (zkI (zFx t) fun IL1 y => gL xs Q 1409 [.retAddr 1, .ref 0, .ref 145, .int (nI i)] [.int y] (zFx t, IL1))) : gL xs Q 1406 [.retAddr 1, .ref 0, .ref 145, .int (nI i)] [.ref 0] (zFx t, IL) := zseg (zcall_m xs 100) 3 [1409] hh
set_option maxRecDepth 100000 in
theorem lC_37 {y : Int32} (hl : xs.length ≤ 3072) (hi : i + 6 ≤ xs.length) (hh : gL xs Q 1410 [.retAddr 1, .ref 0, .ref 145, .int (nI i)] [.ref 145, .int y] M) : gL xs Q 1409 [.retAddr 1, .ref 0, .ref 145, .int (nI i)] [.int y] M := by
  exact zseg (zcall_m xs 100) 4 [1410] hh
set_option maxRecDepth 100000 in
theorem lD_37 {y : Int32} (hh : zcall xs 100 243 (zFx t, IL) [.ref 145] (zkI (zFx t) fun IL1 y2 => gL xs Q 1413 [.retAddr 1, .ref 0, .ref 145, .int (nI i)] [.int y2, .int y] (zFx t, IL1))) : gL xs Q 1410 [.retAddr 1, .ref 0, .ref 145, .int (nI i)] [.ref 145, .int y] (zFx t, IL) := zseg (zcall_m xs 100) 3 [1413] hh
set_option maxRecDepth 100000 in
theorem lE_37 {y y2 : Int32} (hh : zif2 (decide ((y : Int32) = y2)) (gL xs Q 1819 [.retAddr 1, .ref 0, .ref 145, .int (nI i)] [] M) (Q M (some (.int 0)))) : gL xs Q 1413 [.retAddr 1, .ref 0, .ref 145, .int (nI i)] [.int y2, .int y] M := zseg (zcall_m xs 100) 6 [1819] hh
set_option maxRecDepth 100000 in
theorem lA_38 (hl : xs.length ≤ 3072) (hi : i + 6 ≤ xs.length) (hh : gL xs Q 1424 [.retAddr 1, .ref 0, .ref 145, .int (nI i)] [.int (xs.getD (i + 1) 0), .ref 0] M) : gL xs Q 1418 [.retAddr 1, .ref 0, .ref 145, .int (nI i)] [] M := by
  have e1 : nI i + 1 = nI (i + 1) := nI_add i 1
  have c1 : (nI (i + 1)).toNatClampNeg = i + 1 := ycl (by omega)
  have r : (zix (nI i + 1) xs.length (gL xs Q 1424 [.retAddr 1, .ref 0, .ref 145, .int (nI i)] [.int (xs.getD (nI i + 1).toNatClampNeg 0), .ref 0] M)) := by
    rw [e1, c1]
    exact (zix_n (by omega) (by omega) hh)
  exact zseg (zcall_m xs 100) 9 [1424] r
set_option maxRecDepth 100000 in
theorem lB_38 {v1 : Value} (hh : zcall xs 100 125 (zFx t, IL) [.ref 0, v1] (zkI (zFx t) fun IL1 y => gL xs Q 1427 [.retAddr 1, .ref 0, .ref 145, .int (nI i)] [.int y] (zFx t, IL1))) : gL xs Q 1424 [.retAddr 1, .ref 0, .ref 145, .int (nI i)] [v1, .ref 0] (zFx t, IL) := zseg (zcall_m xs 100) 3 [1427] hh
set_option maxRecDepth 100000 in
theorem lC_38 {y : Int32} (hl : xs.length ≤ 3072) (hi : i + 6 ≤ xs.length) (hh : gL xs Q 1433 [.retAddr 1, .ref 0, .ref 145, .int (nI i)] [.int (xs.getD (i + 1) 0), .ref 145, .int y] M) : gL xs Q 1427 [.retAddr 1, .ref 0, .ref 145, .int (nI i)] [.int y] M := by
  have e1 : nI i + 1 = nI (i + 1) := nI_add i 1
  have c1 : (nI (i + 1)).toNatClampNeg = i + 1 := ycl (by omega)
  have r : (zix (nI i + 1) xs.length (gL xs Q 1433 [.retAddr 1, .ref 0, .ref 145, .int (nI i)] [.int (xs.getD (nI i + 1).toNatClampNeg 0), .ref 145, .int y] M)) := by
    rw [e1, c1]
    exact (zix_n (by omega) (by omega) hh)
  exact zseg (zcall_m xs 100) 9 [1433] r
set_option maxRecDepth 100000 in
theorem lD_38 {y : Int32} {v1 : Value} (hh : zcall xs 100 262 (zFx t, IL) [.ref 145, v1] (zkI (zFx t) fun IL1 y2 => gL xs Q 1436 [.retAddr 1, .ref 0, .ref 145, .int (nI i)] [.int y2, .int y] (zFx t, IL1))) : gL xs Q 1433 [.retAddr 1, .ref 0, .ref 145, .int (nI i)] [v1, .ref 145, .int y] (zFx t, IL) := zseg (zcall_m xs 100) 3 [1436] hh
set_option maxRecDepth 100000 in
theorem lE_38 {y y2 : Int32} (hh : zif2 (decide ((y : Int32) = y2)) (gL xs Q 1819 [.retAddr 1, .ref 0, .ref 145, .int (nI i)] [] M) (Q M (some (.int 0)))) : gL xs Q 1436 [.retAddr 1, .ref 0, .ref 145, .int (nI i)] [.int y2, .int y] M := zseg (zcall_m xs 100) 6 [1819] hh
set_option maxRecDepth 100000 in
theorem lA_39 (hl : xs.length ≤ 3072) (hi : i + 6 ≤ xs.length) (hh : gL xs Q 1465 [.retAddr 1, .ref 0, .ref 145, .int (nI i)] [.int (ybo (xs.getD (i + 3) 0)), .int (xs.getD (i + 2) 0), .int (xs.getD (i + 1) 0), .ref 0] M) : gL xs Q 1441 [.retAddr 1, .ref 0, .ref 145, .int (nI i)] [] M := by
  have e1 : nI i + 1 = nI (i + 1) := nI_add i 1
  have c1 : (nI (i + 1)).toNatClampNeg = i + 1 := ycl (by omega)
  have e2 : nI i + 2 = nI (i + 2) := nI_add i 2
  have c2 : (nI (i + 2)).toNatClampNeg = i + 2 := ycl (by omega)
  have e3 : nI i + 3 = nI (i + 3) := nI_add i 3
  have c3 : (nI (i + 3)).toNatClampNeg = i + 3 := ycl (by omega)
  by_cases z : xs.getD (i + 3) 0 = 0
  · rw [ybo_0 z] at hh
    have r : (zix (nI i + 1) xs.length (zix (nI i + 2) xs.length (zix (nI i + 3) xs.length (zif2 (decide ((xs.getD (nI i + 3).toNatClampNeg 0 : Int32) = 0)) (gL xs Q 1465 [.retAddr 1, .ref 0, .ref 145, .int (nI i)] [.int 0, .int (xs.getD (nI i + 2).toNatClampNeg 0), .int (xs.getD (nI i + 1).toNatClampNeg 0), .ref 0] M) (gL xs Q 1465 [.retAddr 1, .ref 0, .ref 145, .int (nI i)] [.int 1, .int (xs.getD (nI i + 2).toNatClampNeg 0), .int (xs.getD (nI i + 1).toNatClampNeg 0), .ref 0] M))))) := by
      rw [e1, e2, e3, c1, c2, c3]
      exact (zix_n (by omega) (by omega) (zix_n (by omega) (by omega) (zix_n (by omega) (by omega) (zdec (fun _ => hh) (fun q => absurd z q)))))
    exact zseg (zcall_m xs 100) 23 [1465] r
  · rw [ybo_1 z] at hh
    have r : (zix (nI i + 1) xs.length (zix (nI i + 2) xs.length (zix (nI i + 3) xs.length (zif2 (decide ((xs.getD (nI i + 3).toNatClampNeg 0 : Int32) = 0)) (gL xs Q 1465 [.retAddr 1, .ref 0, .ref 145, .int (nI i)] [.int 0, .int (xs.getD (nI i + 2).toNatClampNeg 0), .int (xs.getD (nI i + 1).toNatClampNeg 0), .ref 0] M) (gL xs Q 1465 [.retAddr 1, .ref 0, .ref 145, .int (nI i)] [.int 1, .int (xs.getD (nI i + 2).toNatClampNeg 0), .int (xs.getD (nI i + 1).toNatClampNeg 0), .ref 0] M))))) := by
      rw [e1, e2, e3, c1, c2, c3]
      exact (zix_n (by omega) (by omega) (zix_n (by omega) (by omega) (zix_n (by omega) (by omega) (zdec (fun q => absurd q z) (fun _ => hh)))))
    exact zseg (zcall_m xs 100) 23 [1465] r
set_option maxRecDepth 100000 in
theorem lB_39 {v1 v2 v3 : Value} (hh : zcall xs 100 126 (zFx t, IL) [.ref 0, v1, v2, v3] (zkI (zFx t) fun IL1 y => gL xs Q 1468 [.retAddr 1, .ref 0, .ref 145, .int (nI i)] [.int y] (zFx t, IL1))) : gL xs Q 1465 [.retAddr 1, .ref 0, .ref 145, .int (nI i)] [v3, v2, v1, .ref 0] (zFx t, IL) := zseg (zcall_m xs 100) 3 [1468] hh
set_option maxRecDepth 100000 in
theorem lC_39 {y : Int32} (hl : xs.length ≤ 3072) (hi : i + 6 ≤ xs.length) (hh : gL xs Q 1492 [.retAddr 1, .ref 0, .ref 145, .int (nI i)] [.int (ybo (xs.getD (i + 3) 0)), .int (xs.getD (i + 2) 0), .int (xs.getD (i + 1) 0), .ref 145, .int y] M) : gL xs Q 1468 [.retAddr 1, .ref 0, .ref 145, .int (nI i)] [.int y] M := by
  have e1 : nI i + 1 = nI (i + 1) := nI_add i 1
  have c1 : (nI (i + 1)).toNatClampNeg = i + 1 := ycl (by omega)
  have e2 : nI i + 2 = nI (i + 2) := nI_add i 2
  have c2 : (nI (i + 2)).toNatClampNeg = i + 2 := ycl (by omega)
  have e3 : nI i + 3 = nI (i + 3) := nI_add i 3
  have c3 : (nI (i + 3)).toNatClampNeg = i + 3 := ycl (by omega)
  by_cases z : xs.getD (i + 3) 0 = 0
  · rw [ybo_0 z] at hh
    have r : (zix (nI i + 1) xs.length (zix (nI i + 2) xs.length (zix (nI i + 3) xs.length (zif2 (decide ((xs.getD (nI i + 3).toNatClampNeg 0 : Int32) = 0)) (gL xs Q 1492 [.retAddr 1, .ref 0, .ref 145, .int (nI i)] [.int 0, .int (xs.getD (nI i + 2).toNatClampNeg 0), .int (xs.getD (nI i + 1).toNatClampNeg 0), .ref 145, .int y] M) (gL xs Q 1492 [.retAddr 1, .ref 0, .ref 145, .int (nI i)] [.int 1, .int (xs.getD (nI i + 2).toNatClampNeg 0), .int (xs.getD (nI i + 1).toNatClampNeg 0), .ref 145, .int y] M))))) := by
      rw [e1, e2, e3, c1, c2, c3]
      exact (zix_n (by omega) (by omega) (zix_n (by omega) (by omega) (zix_n (by omega) (by omega) (zdec (fun _ => hh) (fun q => absurd z q)))))
    exact zseg (zcall_m xs 100) 23 [1492] r
  · rw [ybo_1 z] at hh
    have r : (zix (nI i + 1) xs.length (zix (nI i + 2) xs.length (zix (nI i + 3) xs.length (zif2 (decide ((xs.getD (nI i + 3).toNatClampNeg 0 : Int32) = 0)) (gL xs Q 1492 [.retAddr 1, .ref 0, .ref 145, .int (nI i)] [.int 0, .int (xs.getD (nI i + 2).toNatClampNeg 0), .int (xs.getD (nI i + 1).toNatClampNeg 0), .ref 145, .int y] M) (gL xs Q 1492 [.retAddr 1, .ref 0, .ref 145, .int (nI i)] [.int 1, .int (xs.getD (nI i + 2).toNatClampNeg 0), .int (xs.getD (nI i + 1).toNatClampNeg 0), .ref 145, .int y] M))))) := by
      rw [e1, e2, e3, c1, c2, c3]
      exact (zix_n (by omega) (by omega) (zix_n (by omega) (by omega) (zix_n (by omega) (by omega) (zdec (fun q => absurd q z) (fun _ => hh)))))
    exact zseg (zcall_m xs 100) 23 [1492] r
set_option maxRecDepth 100000 in
theorem lD_39 {y : Int32} {v1 v2 v3 : Value} (hh : zcall xs 100 263 (zFx t, IL) [.ref 145, v1, v2, v3] (zkI (zFx t) fun IL1 y2 => gL xs Q 1495 [.retAddr 1, .ref 0, .ref 145, .int (nI i)] [.int y2, .int y] (zFx t, IL1))) : gL xs Q 1492 [.retAddr 1, .ref 0, .ref 145, .int (nI i)] [v3, v2, v1, .ref 145, .int y] (zFx t, IL) := zseg (zcall_m xs 100) 3 [1495] hh
set_option maxRecDepth 100000 in
theorem lE_39 {y y2 : Int32} (hh : zif2 (decide ((y : Int32) = y2)) (gL xs Q 1819 [.retAddr 1, .ref 0, .ref 145, .int (nI i)] [] M) (Q M (some (.int 0)))) : gL xs Q 1495 [.retAddr 1, .ref 0, .ref 145, .int (nI i)] [.int y2, .int y] M := zseg (zcall_m xs 100) 6 [1819] hh
set_option maxRecDepth 100000 in
theorem lA_40 (hl : xs.length ≤ 3072) (hi : i + 6 ≤ xs.length) (hh : gL xs Q 1511 [.retAddr 1, .ref 0, .ref 145, .int (nI i)] [.int (xs.getD (i + 2) 0), .int (xs.getD (i + 1) 0), .ref 0] M) : gL xs Q 1500 [.retAddr 1, .ref 0, .ref 145, .int (nI i)] [] M := by
  have e1 : nI i + 1 = nI (i + 1) := nI_add i 1
  have c1 : (nI (i + 1)).toNatClampNeg = i + 1 := ycl (by omega)
  have e2 : nI i + 2 = nI (i + 2) := nI_add i 2
  have c2 : (nI (i + 2)).toNatClampNeg = i + 2 := ycl (by omega)
  have r : (zix (nI i + 1) xs.length (zix (nI i + 2) xs.length (gL xs Q 1511 [.retAddr 1, .ref 0, .ref 145, .int (nI i)] [.int (xs.getD (nI i + 2).toNatClampNeg 0), .int (xs.getD (nI i + 1).toNatClampNeg 0), .ref 0] M))) := by
    rw [e1, e2, c1, c2]
    exact (zix_n (by omega) (by omega) (zix_n (by omega) (by omega) hh))
  exact zseg (zcall_m xs 100) 14 [1511] r
set_option maxRecDepth 100000 in
theorem lB_40 {v1 v2 : Value} (hh : zcall xs 100 127 (zFx t, IL) [.ref 0, v1, v2] (zkI (zFx t) fun IL1 y => gL xs Q 1514 [.retAddr 1, .ref 0, .ref 145, .int (nI i)] [.int y] (zFx t, IL1))) : gL xs Q 1511 [.retAddr 1, .ref 0, .ref 145, .int (nI i)] [v2, v1, .ref 0] (zFx t, IL) := zseg (zcall_m xs 100) 3 [1514] hh
set_option maxRecDepth 100000 in
theorem lC_40 {y : Int32} (hl : xs.length ≤ 3072) (hi : i + 6 ≤ xs.length) (hh : gL xs Q 1525 [.retAddr 1, .ref 0, .ref 145, .int (nI i)] [.int (xs.getD (i + 2) 0), .int (xs.getD (i + 1) 0), .ref 145, .int y] M) : gL xs Q 1514 [.retAddr 1, .ref 0, .ref 145, .int (nI i)] [.int y] M := by
  have e1 : nI i + 1 = nI (i + 1) := nI_add i 1
  have c1 : (nI (i + 1)).toNatClampNeg = i + 1 := ycl (by omega)
  have e2 : nI i + 2 = nI (i + 2) := nI_add i 2
  have c2 : (nI (i + 2)).toNatClampNeg = i + 2 := ycl (by omega)
  have r : (zix (nI i + 1) xs.length (zix (nI i + 2) xs.length (gL xs Q 1525 [.retAddr 1, .ref 0, .ref 145, .int (nI i)] [.int (xs.getD (nI i + 2).toNatClampNeg 0), .int (xs.getD (nI i + 1).toNatClampNeg 0), .ref 145, .int y] M))) := by
    rw [e1, e2, c1, c2]
    exact (zix_n (by omega) (by omega) (zix_n (by omega) (by omega) hh))
  exact zseg (zcall_m xs 100) 14 [1525] r
set_option maxRecDepth 100000 in
theorem lD_40 {y : Int32} {v1 v2 : Value} (hh : zcall xs 100 266 (zFx t, IL) [.ref 145, v1, v2] (zkI (zFx t) fun IL1 y2 => gL xs Q 1528 [.retAddr 1, .ref 0, .ref 145, .int (nI i)] [.int y2, .int y] (zFx t, IL1))) : gL xs Q 1525 [.retAddr 1, .ref 0, .ref 145, .int (nI i)] [v2, v1, .ref 145, .int y] (zFx t, IL) := zseg (zcall_m xs 100) 3 [1528] hh
set_option maxRecDepth 100000 in
theorem lE_40 {y y2 : Int32} (hh : zif2 (decide ((y : Int32) = y2)) (gL xs Q 1819 [.retAddr 1, .ref 0, .ref 145, .int (nI i)] [] M) (Q M (some (.int 0)))) : gL xs Q 1528 [.retAddr 1, .ref 0, .ref 145, .int (nI i)] [.int y2, .int y] M := zseg (zcall_m xs 100) 6 [1819] hh
set_option maxRecDepth 100000 in
theorem lA_41 (hl : xs.length ≤ 3072) (hi : i + 6 ≤ xs.length) (hh : gL xs Q 1539 [.retAddr 1, .ref 0, .ref 145, .int (nI i)] [.int (xs.getD (i + 1) 0), .ref 0] M) : gL xs Q 1533 [.retAddr 1, .ref 0, .ref 145, .int (nI i)] [] M := by
  have e1 : nI i + 1 = nI (i + 1) := nI_add i 1
  have c1 : (nI (i + 1)).toNatClampNeg = i + 1 := ycl (by omega)
  have r : (zix (nI i + 1) xs.length (gL xs Q 1539 [.retAddr 1, .ref 0, .ref 145, .int (nI i)] [.int (xs.getD (nI i + 1).toNatClampNeg 0), .ref 0] M)) := by
    rw [e1, c1]
    exact (zix_n (by omega) (by omega) hh)
  exact zseg (zcall_m xs 100) 9 [1539] r
set_option maxRecDepth 100000 in
theorem lB_41 {v1 : Value} (hh : zcall xs 100 128 (zFx t, IL) [.ref 0, v1] (zkI (zFx t) fun IL1 y => gL xs Q 1542 [.retAddr 1, .ref 0, .ref 145, .int (nI i)] [.int y] (zFx t, IL1))) : gL xs Q 1539 [.retAddr 1, .ref 0, .ref 145, .int (nI i)] [v1, .ref 0] (zFx t, IL) := zseg (zcall_m xs 100) 3 [1542] hh
set_option maxRecDepth 100000 in
theorem lC_41 {y : Int32} (hl : xs.length ≤ 3072) (hi : i + 6 ≤ xs.length) (hh : gL xs Q 1548 [.retAddr 1, .ref 0, .ref 145, .int (nI i)] [.int (xs.getD (i + 1) 0), .ref 145, .int y] M) : gL xs Q 1542 [.retAddr 1, .ref 0, .ref 145, .int (nI i)] [.int y] M := by
  have e1 : nI i + 1 = nI (i + 1) := nI_add i 1
  have c1 : (nI (i + 1)).toNatClampNeg = i + 1 := ycl (by omega)
  have r : (zix (nI i + 1) xs.length (gL xs Q 1548 [.retAddr 1, .ref 0, .ref 145, .int (nI i)] [.int (xs.getD (nI i + 1).toNatClampNeg 0), .ref 145, .int y] M)) := by
    rw [e1, c1]
    exact (zix_n (by omega) (by omega) hh)
  exact zseg (zcall_m xs 100) 9 [1548] r
set_option maxRecDepth 100000 in
theorem lD_41 {y : Int32} {v1 : Value} (hh : zcall xs 100 267 (zFx t, IL) [.ref 145, v1] (zkI (zFx t) fun IL1 y2 => gL xs Q 1551 [.retAddr 1, .ref 0, .ref 145, .int (nI i)] [.int y2, .int y] (zFx t, IL1))) : gL xs Q 1548 [.retAddr 1, .ref 0, .ref 145, .int (nI i)] [v1, .ref 145, .int y] (zFx t, IL) := zseg (zcall_m xs 100) 3 [1551] hh
set_option maxRecDepth 100000 in
theorem lE_41 {y y2 : Int32} (hh : zif2 (decide ((y : Int32) = y2)) (gL xs Q 1819 [.retAddr 1, .ref 0, .ref 145, .int (nI i)] [] M) (Q M (some (.int 0)))) : gL xs Q 1551 [.retAddr 1, .ref 0, .ref 145, .int (nI i)] [.int y2, .int y] M := zseg (zcall_m xs 100) 6 [1819] hh
set_option maxRecDepth 100000 in
theorem lA_42 (hl : xs.length ≤ 3072) (hi : i + 6 ≤ xs.length) (hh : gL xs Q 1580 [.retAddr 1, .ref 0, .ref 145, .int (nI i)] [.int (ybo (xs.getD (i + 3) 0)), .int (xs.getD (i + 2) 0), .int (xs.getD (i + 1) 0), .ref 0] M) : gL xs Q 1556 [.retAddr 1, .ref 0, .ref 145, .int (nI i)] [] M := by
  have e1 : nI i + 1 = nI (i + 1) := nI_add i 1
  have c1 : (nI (i + 1)).toNatClampNeg = i + 1 := ycl (by omega)
  have e2 : nI i + 2 = nI (i + 2) := nI_add i 2
  have c2 : (nI (i + 2)).toNatClampNeg = i + 2 := ycl (by omega)
  have e3 : nI i + 3 = nI (i + 3) := nI_add i 3
  have c3 : (nI (i + 3)).toNatClampNeg = i + 3 := ycl (by omega)
  by_cases z : xs.getD (i + 3) 0 = 0
  · rw [ybo_0 z] at hh
    have r : (zix (nI i + 1) xs.length (zix (nI i + 2) xs.length (zix (nI i + 3) xs.length (zif2 (decide ((xs.getD (nI i + 3).toNatClampNeg 0 : Int32) = 0)) (gL xs Q 1580 [.retAddr 1, .ref 0, .ref 145, .int (nI i)] [.int 0, .int (xs.getD (nI i + 2).toNatClampNeg 0), .int (xs.getD (nI i + 1).toNatClampNeg 0), .ref 0] M) (gL xs Q 1580 [.retAddr 1, .ref 0, .ref 145, .int (nI i)] [.int 1, .int (xs.getD (nI i + 2).toNatClampNeg 0), .int (xs.getD (nI i + 1).toNatClampNeg 0), .ref 0] M))))) := by
      rw [e1, e2, e3, c1, c2, c3]
      exact (zix_n (by omega) (by omega) (zix_n (by omega) (by omega) (zix_n (by omega) (by omega) (zdec (fun _ => hh) (fun q => absurd z q)))))
    exact zseg (zcall_m xs 100) 23 [1580] r
  · rw [ybo_1 z] at hh
    have r : (zix (nI i + 1) xs.length (zix (nI i + 2) xs.length (zix (nI i + 3) xs.length (zif2 (decide ((xs.getD (nI i + 3).toNatClampNeg 0 : Int32) = 0)) (gL xs Q 1580 [.retAddr 1, .ref 0, .ref 145, .int (nI i)] [.int 0, .int (xs.getD (nI i + 2).toNatClampNeg 0), .int (xs.getD (nI i + 1).toNatClampNeg 0), .ref 0] M) (gL xs Q 1580 [.retAddr 1, .ref 0, .ref 145, .int (nI i)] [.int 1, .int (xs.getD (nI i + 2).toNatClampNeg 0), .int (xs.getD (nI i + 1).toNatClampNeg 0), .ref 0] M))))) := by
      rw [e1, e2, e3, c1, c2, c3]
      exact (zix_n (by omega) (by omega) (zix_n (by omega) (by omega) (zix_n (by omega) (by omega) (zdec (fun q => absurd q z) (fun _ => hh)))))
    exact zseg (zcall_m xs 100) 23 [1580] r
set_option maxRecDepth 100000 in
theorem lB_42 {v1 v2 v3 : Value} (hh : zcall xs 100 129 (zFx t, IL) [.ref 0, v1, v2, v3] (zkI (zFx t) fun IL1 y => gL xs Q 1583 [.retAddr 1, .ref 0, .ref 145, .int (nI i)] [.int y] (zFx t, IL1))) : gL xs Q 1580 [.retAddr 1, .ref 0, .ref 145, .int (nI i)] [v3, v2, v1, .ref 0] (zFx t, IL) := zseg (zcall_m xs 100) 3 [1583] hh
set_option maxRecDepth 100000 in
theorem lC_42 {y : Int32} (hl : xs.length ≤ 3072) (hi : i + 6 ≤ xs.length) (hh : gL xs Q 1607 [.retAddr 1, .ref 0, .ref 145, .int (nI i)] [.int (ybo (xs.getD (i + 3) 0)), .int (xs.getD (i + 2) 0), .int (xs.getD (i + 1) 0), .ref 145, .int y] M) : gL xs Q 1583 [.retAddr 1, .ref 0, .ref 145, .int (nI i)] [.int y] M := by
  have e1 : nI i + 1 = nI (i + 1) := nI_add i 1
  have c1 : (nI (i + 1)).toNatClampNeg = i + 1 := ycl (by omega)
  have e2 : nI i + 2 = nI (i + 2) := nI_add i 2
  have c2 : (nI (i + 2)).toNatClampNeg = i + 2 := ycl (by omega)
  have e3 : nI i + 3 = nI (i + 3) := nI_add i 3
  have c3 : (nI (i + 3)).toNatClampNeg = i + 3 := ycl (by omega)
  by_cases z : xs.getD (i + 3) 0 = 0
  · rw [ybo_0 z] at hh
    have r : (zix (nI i + 1) xs.length (zix (nI i + 2) xs.length (zix (nI i + 3) xs.length (zif2 (decide ((xs.getD (nI i + 3).toNatClampNeg 0 : Int32) = 0)) (gL xs Q 1607 [.retAddr 1, .ref 0, .ref 145, .int (nI i)] [.int 0, .int (xs.getD (nI i + 2).toNatClampNeg 0), .int (xs.getD (nI i + 1).toNatClampNeg 0), .ref 145, .int y] M) (gL xs Q 1607 [.retAddr 1, .ref 0, .ref 145, .int (nI i)] [.int 1, .int (xs.getD (nI i + 2).toNatClampNeg 0), .int (xs.getD (nI i + 1).toNatClampNeg 0), .ref 145, .int y] M))))) := by
      rw [e1, e2, e3, c1, c2, c3]
      exact (zix_n (by omega) (by omega) (zix_n (by omega) (by omega) (zix_n (by omega) (by omega) (zdec (fun _ => hh) (fun q => absurd z q)))))
    exact zseg (zcall_m xs 100) 23 [1607] r
  · rw [ybo_1 z] at hh
    have r : (zix (nI i + 1) xs.length (zix (nI i + 2) xs.length (zix (nI i + 3) xs.length (zif2 (decide ((xs.getD (nI i + 3).toNatClampNeg 0 : Int32) = 0)) (gL xs Q 1607 [.retAddr 1, .ref 0, .ref 145, .int (nI i)] [.int 0, .int (xs.getD (nI i + 2).toNatClampNeg 0), .int (xs.getD (nI i + 1).toNatClampNeg 0), .ref 145, .int y] M) (gL xs Q 1607 [.retAddr 1, .ref 0, .ref 145, .int (nI i)] [.int 1, .int (xs.getD (nI i + 2).toNatClampNeg 0), .int (xs.getD (nI i + 1).toNatClampNeg 0), .ref 145, .int y] M))))) := by
      rw [e1, e2, e3, c1, c2, c3]
      exact (zix_n (by omega) (by omega) (zix_n (by omega) (by omega) (zix_n (by omega) (by omega) (zdec (fun q => absurd q z) (fun _ => hh)))))
    exact zseg (zcall_m xs 100) 23 [1607] r
set_option maxRecDepth 100000 in
theorem lD_42 {y : Int32} {v1 v2 v3 : Value} (hh : zcall xs 100 269 (zFx t, IL) [.ref 145, v1, v2, v3] (zkI (zFx t) fun IL1 y2 => gL xs Q 1610 [.retAddr 1, .ref 0, .ref 145, .int (nI i)] [.int y2, .int y] (zFx t, IL1))) : gL xs Q 1607 [.retAddr 1, .ref 0, .ref 145, .int (nI i)] [v3, v2, v1, .ref 145, .int y] (zFx t, IL) := zseg (zcall_m xs 100) 3 [1610] hh
set_option maxRecDepth 100000 in
theorem lE_42 {y y2 : Int32} (hh : zif2 (decide ((y : Int32) = y2)) (gL xs Q 1819 [.retAddr 1, .ref 0, .ref 145, .int (nI i)] [] M) (Q M (some (.int 0)))) : gL xs Q 1610 [.retAddr 1, .ref 0, .ref 145, .int (nI i)] [.int y2, .int y] M := zseg (zcall_m xs 100) 6 [1819] hh
set_option maxRecDepth 100000 in
theorem lA_43 (hl : xs.length ≤ 3072) (hi : i + 6 ≤ xs.length) (hh : gL xs Q 1621 [.retAddr 1, .ref 0, .ref 145, .int (nI i)] [.int (xs.getD (i + 1) 0), .ref 0] M) : gL xs Q 1615 [.retAddr 1, .ref 0, .ref 145, .int (nI i)] [] M := by
  have e1 : nI i + 1 = nI (i + 1) := nI_add i 1
  have c1 : (nI (i + 1)).toNatClampNeg = i + 1 := ycl (by omega)
  have r : (zix (nI i + 1) xs.length (gL xs Q 1621 [.retAddr 1, .ref 0, .ref 145, .int (nI i)] [.int (xs.getD (nI i + 1).toNatClampNeg 0), .ref 0] M)) := by
    rw [e1, c1]
    exact (zix_n (by omega) (by omega) hh)
  exact zseg (zcall_m xs 100) 9 [1621] r
set_option maxRecDepth 100000 in
theorem lB_43 {v1 : Value} (hh : zcall xs 100 130 (zFx t, IL) [.ref 0, v1] (zkI (zFx t) fun IL1 y => gL xs Q 1624 [.retAddr 1, .ref 0, .ref 145, .int (nI i)] [.int y] (zFx t, IL1))) : gL xs Q 1621 [.retAddr 1, .ref 0, .ref 145, .int (nI i)] [v1, .ref 0] (zFx t, IL) := zseg (zcall_m xs 100) 3 [1624] hh
set_option maxRecDepth 100000 in
theorem lC_43 {y : Int32} (hl : xs.length ≤ 3072) (hi : i + 6 ≤ xs.length) (hh : gL xs Q 1630 [.retAddr 1, .ref 0, .ref 145, .int (nI i)] [.int (xs.getD (i + 1) 0), .ref 145, .int y] M) : gL xs Q 1624 [.retAddr 1, .ref 0, .ref 145, .int (nI i)] [.int y] M := by
  have e1 : nI i + 1 = nI (i + 1) := nI_add i 1
  have c1 : (nI (i + 1)).toNatClampNeg = i + 1 := ycl (by omega)
  have r : (zix (nI i + 1) xs.length (gL xs Q 1630 [.retAddr 1, .ref 0, .ref 145, .int (nI i)] [.int (xs.getD (nI i + 1).toNatClampNeg 0), .ref 145, .int y] M)) := by
    rw [e1, c1]
    exact (zix_n (by omega) (by omega) hh)
  exact zseg (zcall_m xs 100) 9 [1630] r
set_option maxRecDepth 100000 in
theorem lD_43 {y : Int32} {v1 : Value} (hh : zcall xs 100 270 (zFx t, IL) [.ref 145, v1] (zkI (zFx t) fun IL1 y2 => gL xs Q 1633 [.retAddr 1, .ref 0, .ref 145, .int (nI i)] [.int y2, .int y] (zFx t, IL1))) : gL xs Q 1630 [.retAddr 1, .ref 0, .ref 145, .int (nI i)] [v1, .ref 145, .int y] (zFx t, IL) := zseg (zcall_m xs 100) 3 [1633] hh
set_option maxRecDepth 100000 in
theorem lE_43 {y y2 : Int32} (hh : zif2 (decide ((y : Int32) = y2)) (gL xs Q 1819 [.retAddr 1, .ref 0, .ref 145, .int (nI i)] [] M) (Q M (some (.int 0)))) : gL xs Q 1633 [.retAddr 1, .ref 0, .ref 145, .int (nI i)] [.int y2, .int y] M := zseg (zcall_m xs 100) 6 [1819] hh
set_option maxRecDepth 100000 in
theorem lA_44 (hl : xs.length ≤ 3072) (hi : i + 6 ≤ xs.length) (hh : gL xs Q 1644 [.retAddr 1, .ref 0, .ref 145, .int (nI i)] [.int (xs.getD (i + 1) 0), .ref 0] M) : gL xs Q 1638 [.retAddr 1, .ref 0, .ref 145, .int (nI i)] [] M := by
  have e1 : nI i + 1 = nI (i + 1) := nI_add i 1
  have c1 : (nI (i + 1)).toNatClampNeg = i + 1 := ycl (by omega)
  have r : (zix (nI i + 1) xs.length (gL xs Q 1644 [.retAddr 1, .ref 0, .ref 145, .int (nI i)] [.int (xs.getD (nI i + 1).toNatClampNeg 0), .ref 0] M)) := by
    rw [e1, c1]
    exact (zix_n (by omega) (by omega) hh)
  exact zseg (zcall_m xs 100) 9 [1644] r
set_option maxRecDepth 100000 in
theorem lB_44 {v1 : Value} (hh : zcall xs 100 131 (zFx t, IL) [.ref 0, v1] (zkI (zFx t) fun IL1 y => gL xs Q 1647 [.retAddr 1, .ref 0, .ref 145, .int (nI i)] [.int y] (zFx t, IL1))) : gL xs Q 1644 [.retAddr 1, .ref 0, .ref 145, .int (nI i)] [v1, .ref 0] (zFx t, IL) := zseg (zcall_m xs 100) 3 [1647] hh
set_option maxRecDepth 100000 in
theorem lC_44 {y : Int32} (hl : xs.length ≤ 3072) (hi : i + 6 ≤ xs.length) (hh : gL xs Q 1653 [.retAddr 1, .ref 0, .ref 145, .int (nI i)] [.int (xs.getD (i + 1) 0), .ref 145, .int y] M) : gL xs Q 1647 [.retAddr 1, .ref 0, .ref 145, .int (nI i)] [.int y] M := by
  have e1 : nI i + 1 = nI (i + 1) := nI_add i 1
  have c1 : (nI (i + 1)).toNatClampNeg = i + 1 := ycl (by omega)
  have r : (zix (nI i + 1) xs.length (gL xs Q 1653 [.retAddr 1, .ref 0, .ref 145, .int (nI i)] [.int (xs.getD (nI i + 1).toNatClampNeg 0), .ref 145, .int y] M)) := by
    rw [e1, c1]
    exact (zix_n (by omega) (by omega) hh)
  exact zseg (zcall_m xs 100) 9 [1653] r
set_option maxRecDepth 100000 in
theorem lD_44 {y : Int32} {v1 : Value} (hh : zcall xs 100 271 (zFx t, IL) [.ref 145, v1] (zkI (zFx t) fun IL1 y2 => gL xs Q 1656 [.retAddr 1, .ref 0, .ref 145, .int (nI i)] [.int y2, .int y] (zFx t, IL1))) : gL xs Q 1653 [.retAddr 1, .ref 0, .ref 145, .int (nI i)] [v1, .ref 145, .int y] (zFx t, IL) := zseg (zcall_m xs 100) 3 [1656] hh
set_option maxRecDepth 100000 in
theorem lE_44 {y y2 : Int32} (hh : zif2 (decide ((y : Int32) = y2)) (gL xs Q 1819 [.retAddr 1, .ref 0, .ref 145, .int (nI i)] [] M) (Q M (some (.int 0)))) : gL xs Q 1656 [.retAddr 1, .ref 0, .ref 145, .int (nI i)] [.int y2, .int y] M := zseg (zcall_m xs 100) 6 [1819] hh
set_option maxRecDepth 100000 in
theorem lA_45 (hl : xs.length ≤ 3072) (hi : i + 6 ≤ xs.length) (hh : gL xs Q 1667 [.retAddr 1, .ref 0, .ref 145, .int (nI i)] [.int (xs.getD (i + 1) 0), .ref 0] M) : gL xs Q 1661 [.retAddr 1, .ref 0, .ref 145, .int (nI i)] [] M := by
  have e1 : nI i + 1 = nI (i + 1) := nI_add i 1
  have c1 : (nI (i + 1)).toNatClampNeg = i + 1 := ycl (by omega)
  have r : (zix (nI i + 1) xs.length (gL xs Q 1667 [.retAddr 1, .ref 0, .ref 145, .int (nI i)] [.int (xs.getD (nI i + 1).toNatClampNeg 0), .ref 0] M)) := by
    rw [e1, c1]
    exact (zix_n (by omega) (by omega) hh)
  exact zseg (zcall_m xs 100) 9 [1667] r
set_option maxRecDepth 100000 in
theorem lB_45 {v1 : Value} (hh : zcall xs 100 132 (zFx t, IL) [.ref 0, v1] (zkI (zFx t) fun IL1 y => gL xs Q 1670 [.retAddr 1, .ref 0, .ref 145, .int (nI i)] [.int y] (zFx t, IL1))) : gL xs Q 1667 [.retAddr 1, .ref 0, .ref 145, .int (nI i)] [v1, .ref 0] (zFx t, IL) := zseg (zcall_m xs 100) 3 [1670] hh
set_option maxRecDepth 100000 in
theorem lC_45 {y : Int32} (hl : xs.length ≤ 3072) (hi : i + 6 ≤ xs.length) (hh : gL xs Q 1676 [.retAddr 1, .ref 0, .ref 145, .int (nI i)] [.int (xs.getD (i + 1) 0), .ref 145, .int y] M) : gL xs Q 1670 [.retAddr 1, .ref 0, .ref 145, .int (nI i)] [.int y] M := by
  have e1 : nI i + 1 = nI (i + 1) := nI_add i 1
  have c1 : (nI (i + 1)).toNatClampNeg = i + 1 := ycl (by omega)
  have r : (zix (nI i + 1) xs.length (gL xs Q 1676 [.retAddr 1, .ref 0, .ref 145, .int (nI i)] [.int (xs.getD (nI i + 1).toNatClampNeg 0), .ref 145, .int y] M)) := by
    rw [e1, c1]
    exact (zix_n (by omega) (by omega) hh)
  exact zseg (zcall_m xs 100) 9 [1676] r
set_option maxRecDepth 100000 in
theorem lD_45 {y : Int32} {v1 : Value} (hh : zcall xs 100 275 (zFx t, IL) [.ref 145, v1] (zkI (zFx t) fun IL1 y2 => gL xs Q 1679 [.retAddr 1, .ref 0, .ref 145, .int (nI i)] [.int y2, .int y] (zFx t, IL1))) : gL xs Q 1676 [.retAddr 1, .ref 0, .ref 145, .int (nI i)] [v1, .ref 145, .int y] (zFx t, IL) := zseg (zcall_m xs 100) 3 [1679] hh
set_option maxRecDepth 100000 in
theorem lE_45 {y y2 : Int32} (hh : zif2 (decide ((y : Int32) = y2)) (gL xs Q 1819 [.retAddr 1, .ref 0, .ref 145, .int (nI i)] [] M) (Q M (some (.int 0)))) : gL xs Q 1679 [.retAddr 1, .ref 0, .ref 145, .int (nI i)] [.int y2, .int y] M := zseg (zcall_m xs 100) 6 [1819] hh
set_option maxRecDepth 100000 in
theorem lA_46 (hl : xs.length ≤ 3072) (hi : i + 6 ≤ xs.length) (hh : gL xs Q 1695 [.retAddr 1, .ref 0, .ref 145, .int (nI i)] [.int (xs.getD (i + 2) 0), .int (xs.getD (i + 1) 0), .ref 0] M) : gL xs Q 1684 [.retAddr 1, .ref 0, .ref 145, .int (nI i)] [] M := by
  have e1 : nI i + 1 = nI (i + 1) := nI_add i 1
  have c1 : (nI (i + 1)).toNatClampNeg = i + 1 := ycl (by omega)
  have e2 : nI i + 2 = nI (i + 2) := nI_add i 2
  have c2 : (nI (i + 2)).toNatClampNeg = i + 2 := ycl (by omega)
  have r : (zix (nI i + 1) xs.length (zix (nI i + 2) xs.length (gL xs Q 1695 [.retAddr 1, .ref 0, .ref 145, .int (nI i)] [.int (xs.getD (nI i + 2).toNatClampNeg 0), .int (xs.getD (nI i + 1).toNatClampNeg 0), .ref 0] M))) := by
    rw [e1, e2, c1, c2]
    exact (zix_n (by omega) (by omega) (zix_n (by omega) (by omega) hh))
  exact zseg (zcall_m xs 100) 14 [1695] r
set_option maxRecDepth 100000 in
theorem lB_46 {v1 v2 : Value} (hh : zcall xs 100 133 (zFx t, IL) [.ref 0, v1, v2] (zkI (zFx t) fun IL1 y => gL xs Q 1698 [.retAddr 1, .ref 0, .ref 145, .int (nI i)] [.int y] (zFx t, IL1))) : gL xs Q 1695 [.retAddr 1, .ref 0, .ref 145, .int (nI i)] [v2, v1, .ref 0] (zFx t, IL) := zseg (zcall_m xs 100) 3 [1698] hh
set_option maxRecDepth 100000 in
theorem lC_46 {y : Int32} (hl : xs.length ≤ 3072) (hi : i + 6 ≤ xs.length) (hh : gL xs Q 1709 [.retAddr 1, .ref 0, .ref 145, .int (nI i)] [.int (xs.getD (i + 2) 0), .int (xs.getD (i + 1) 0), .ref 145, .int y] M) : gL xs Q 1698 [.retAddr 1, .ref 0, .ref 145, .int (nI i)] [.int y] M := by
  have e1 : nI i + 1 = nI (i + 1) := nI_add i 1
  have c1 : (nI (i + 1)).toNatClampNeg = i + 1 := ycl (by omega)
  have e2 : nI i + 2 = nI (i + 2) := nI_add i 2
  have c2 : (nI (i + 2)).toNatClampNeg = i + 2 := ycl (by omega)
  have r : (zix (nI i + 1) xs.length (zix (nI i + 2) xs.length (gL xs Q 1709 [.retAddr 1, .ref 0, .ref 145, .int (nI i)] [.int (xs.getD (nI i + 2).toNatClampNeg 0), .int (xs.getD (nI i + 1).toNatClampNeg 0), .ref 145, .int y] M))) := by
    rw [e1, e2, c1, c2]
    exact (zix_n (by omega) (by omega) (zix_n (by omega) (by omega) hh))
  exact zseg (zcall_m xs 100) 14 [1709] r
set_option maxRecDepth 100000 in
theorem lD_46 {y : Int32} {v1 v2 : Value} (hh : zcall xs 100 276 (zFx t, IL) [.ref 145, v1, v2] (zkI (zFx t) fun IL1 y2 => gL xs Q 1712 [.retAddr 1, .ref 0, .ref 145, .int (nI i)] [.int y2, .int y] (zFx t, IL1))) : gL xs Q 1709 [.retAddr 1, .ref 0, .ref 145, .int (nI i)] [v2, v1, .ref 145, .int y] (zFx t, IL) := zseg (zcall_m xs 100) 3 [1712] hh
set_option maxRecDepth 100000 in
theorem lE_46 {y y2 : Int32} (hh : zif2 (decide ((y : Int32) = y2)) (gL xs Q 1819 [.retAddr 1, .ref 0, .ref 145, .int (nI i)] [] M) (Q M (some (.int 0)))) : gL xs Q 1712 [.retAddr 1, .ref 0, .ref 145, .int (nI i)] [.int y2, .int y] M := zseg (zcall_m xs 100) 6 [1819] hh
set_option maxRecDepth 100000 in
theorem lA_47 (hl : xs.length ≤ 3072) (hi : i + 6 ≤ xs.length) (hh : gL xs Q 1728 [.retAddr 1, .ref 0, .ref 145, .int (nI i)] [.int (xs.getD (i + 2) 0), .int (xs.getD (i + 1) 0), .ref 0] M) : gL xs Q 1717 [.retAddr 1, .ref 0, .ref 145, .int (nI i)] [] M := by
  have e1 : nI i + 1 = nI (i + 1) := nI_add i 1
  have c1 : (nI (i + 1)).toNatClampNeg = i + 1 := ycl (by omega)
  have e2 : nI i + 2 = nI (i + 2) := nI_add i 2
  have c2 : (nI (i + 2)).toNatClampNeg = i + 2 := ycl (by omega)
  have r : (zix (nI i + 1) xs.length (zix (nI i + 2) xs.length (gL xs Q 1728 [.retAddr 1, .ref 0, .ref 145, .int (nI i)] [.int (xs.getD (nI i + 2).toNatClampNeg 0), .int (xs.getD (nI i + 1).toNatClampNeg 0), .ref 0] M))) := by
    rw [e1, e2, c1, c2]
    exact (zix_n (by omega) (by omega) (zix_n (by omega) (by omega) hh))
  exact zseg (zcall_m xs 100) 14 [1728] r
set_option maxRecDepth 100000 in
theorem lB_47 {v1 v2 : Value} (hh : zcall xs 100 134 (zFx t, IL) [.ref 0, v1, v2] (zkI (zFx t) fun IL1 y => gL xs Q 1731 [.retAddr 1, .ref 0, .ref 145, .int (nI i)] [.int y] (zFx t, IL1))) : gL xs Q 1728 [.retAddr 1, .ref 0, .ref 145, .int (nI i)] [v2, v1, .ref 0] (zFx t, IL) := zseg (zcall_m xs 100) 3 [1731] hh
set_option maxRecDepth 100000 in
theorem lC_47 {y : Int32} (hl : xs.length ≤ 3072) (hi : i + 6 ≤ xs.length) (hh : gL xs Q 1742 [.retAddr 1, .ref 0, .ref 145, .int (nI i)] [.int (xs.getD (i + 2) 0), .int (xs.getD (i + 1) 0), .ref 145, .int y] M) : gL xs Q 1731 [.retAddr 1, .ref 0, .ref 145, .int (nI i)] [.int y] M := by
  have e1 : nI i + 1 = nI (i + 1) := nI_add i 1
  have c1 : (nI (i + 1)).toNatClampNeg = i + 1 := ycl (by omega)
  have e2 : nI i + 2 = nI (i + 2) := nI_add i 2
  have c2 : (nI (i + 2)).toNatClampNeg = i + 2 := ycl (by omega)
  have r : (zix (nI i + 1) xs.length (zix (nI i + 2) xs.length (gL xs Q 1742 [.retAddr 1, .ref 0, .ref 145, .int (nI i)] [.int (xs.getD (nI i + 2).toNatClampNeg 0), .int (xs.getD (nI i + 1).toNatClampNeg 0), .ref 145, .int y] M))) := by
    rw [e1, e2, c1, c2]
    exact (zix_n (by omega) (by omega) (zix_n (by omega) (by omega) hh))
  exact zseg (zcall_m xs 100) 14 [1742] r
set_option maxRecDepth 100000 in
theorem lD_47 {y : Int32} {v1 v2 : Value} (hh : zcall xs 100 278 (zFx t, IL) [.ref 145, v1, v2] (zkI (zFx t) fun IL1 y2 => gL xs Q 1745 [.retAddr 1, .ref 0, .ref 145, .int (nI i)] [.int y2, .int y] (zFx t, IL1))) : gL xs Q 1742 [.retAddr 1, .ref 0, .ref 145, .int (nI i)] [v2, v1, .ref 145, .int y] (zFx t, IL) := zseg (zcall_m xs 100) 3 [1745] hh
set_option maxRecDepth 100000 in
theorem lE_47 {y y2 : Int32} (hh : zif2 (decide ((y : Int32) = y2)) (gL xs Q 1819 [.retAddr 1, .ref 0, .ref 145, .int (nI i)] [] M) (Q M (some (.int 0)))) : gL xs Q 1745 [.retAddr 1, .ref 0, .ref 145, .int (nI i)] [.int y2, .int y] M := zseg (zcall_m xs 100) 6 [1819] hh
set_option maxRecDepth 100000 in
theorem lA_48 (hl : xs.length ≤ 3072) (hi : i + 6 ≤ xs.length) (hh : gL xs Q 1756 [.retAddr 1, .ref 0, .ref 145, .int (nI i)] [.int (xs.getD (i + 1) 0), .ref 0] M) : gL xs Q 1750 [.retAddr 1, .ref 0, .ref 145, .int (nI i)] [] M := by
  have e1 : nI i + 1 = nI (i + 1) := nI_add i 1
  have c1 : (nI (i + 1)).toNatClampNeg = i + 1 := ycl (by omega)
  have r : (zix (nI i + 1) xs.length (gL xs Q 1756 [.retAddr 1, .ref 0, .ref 145, .int (nI i)] [.int (xs.getD (nI i + 1).toNatClampNeg 0), .ref 0] M)) := by
    rw [e1, c1]
    exact (zix_n (by omega) (by omega) hh)
  exact zseg (zcall_m xs 100) 9 [1756] r
set_option maxRecDepth 100000 in
theorem lB_48 {v1 : Value} (hh : zcall xs 100 135 (zFx t, IL) [.ref 0, v1] (zkI (zFx t) fun IL1 y => gL xs Q 1759 [.retAddr 1, .ref 0, .ref 145, .int (nI i)] [.int y] (zFx t, IL1))) : gL xs Q 1756 [.retAddr 1, .ref 0, .ref 145, .int (nI i)] [v1, .ref 0] (zFx t, IL) := zseg (zcall_m xs 100) 3 [1759] hh
set_option maxRecDepth 100000 in
theorem lC_48 {y : Int32} (hl : xs.length ≤ 3072) (hi : i + 6 ≤ xs.length) (hh : gL xs Q 1765 [.retAddr 1, .ref 0, .ref 145, .int (nI i)] [.int (xs.getD (i + 1) 0), .ref 145, .int y] M) : gL xs Q 1759 [.retAddr 1, .ref 0, .ref 145, .int (nI i)] [.int y] M := by
  have e1 : nI i + 1 = nI (i + 1) := nI_add i 1
  have c1 : (nI (i + 1)).toNatClampNeg = i + 1 := ycl (by omega)
  have r : (zix (nI i + 1) xs.length (gL xs Q 1765 [.retAddr 1, .ref 0, .ref 145, .int (nI i)] [.int (xs.getD (nI i + 1).toNatClampNeg 0), .ref 145, .int y] M)) := by
    rw [e1, c1]
    exact (zix_n (by omega) (by omega) hh)
  exact zseg (zcall_m xs 100) 9 [1765] r
set_option maxRecDepth 100000 in
theorem lD_48 {y : Int32} {v1 : Value} (hh : zcall xs 100 280 (zFx t, IL) [.ref 145, v1] (zkI (zFx t) fun IL1 y2 => gL xs Q 1768 [.retAddr 1, .ref 0, .ref 145, .int (nI i)] [.int y2, .int y] (zFx t, IL1))) : gL xs Q 1765 [.retAddr 1, .ref 0, .ref 145, .int (nI i)] [v1, .ref 145, .int y] (zFx t, IL) := zseg (zcall_m xs 100) 3 [1768] hh
set_option maxRecDepth 100000 in
theorem lE_48 {y y2 : Int32} (hh : zif2 (decide ((y : Int32) = y2)) (gL xs Q 1819 [.retAddr 1, .ref 0, .ref 145, .int (nI i)] [] M) (Q M (some (.int 0)))) : gL xs Q 1768 [.retAddr 1, .ref 0, .ref 145, .int (nI i)] [.int y2, .int y] M := zseg (zcall_m xs 100) 6 [1819] hh
set_option maxRecDepth 100000 in
theorem lA_49 (hl : xs.length ≤ 3072) (hi : i + 6 ≤ xs.length) (hh : gL xs Q 1779 [.retAddr 1, .ref 0, .ref 145, .int (nI i)] [.int (xs.getD (i + 1) 0), .ref 0] M) : gL xs Q 1773 [.retAddr 1, .ref 0, .ref 145, .int (nI i)] [] M := by
  have e1 : nI i + 1 = nI (i + 1) := nI_add i 1
  have c1 : (nI (i + 1)).toNatClampNeg = i + 1 := ycl (by omega)
  have r : (zix (nI i + 1) xs.length (gL xs Q 1779 [.retAddr 1, .ref 0, .ref 145, .int (nI i)] [.int (xs.getD (nI i + 1).toNatClampNeg 0), .ref 0] M)) := by
    rw [e1, c1]
    exact (zix_n (by omega) (by omega) hh)
  exact zseg (zcall_m xs 100) 9 [1779] r
set_option maxRecDepth 100000 in
theorem lB_49 {v1 : Value} (hh : zcall xs 100 136 (zFx t, IL) [.ref 0, v1] (zkI (zFx t) fun IL1 y => gL xs Q 1782 [.retAddr 1, .ref 0, .ref 145, .int (nI i)] [.int y] (zFx t, IL1))) : gL xs Q 1779 [.retAddr 1, .ref 0, .ref 145, .int (nI i)] [v1, .ref 0] (zFx t, IL) := zseg (zcall_m xs 100) 3 [1782] hh
set_option maxRecDepth 100000 in
theorem lC_49 {y : Int32} (hl : xs.length ≤ 3072) (hi : i + 6 ≤ xs.length) (hh : gL xs Q 1788 [.retAddr 1, .ref 0, .ref 145, .int (nI i)] [.int (xs.getD (i + 1) 0), .ref 145, .int y] M) : gL xs Q 1782 [.retAddr 1, .ref 0, .ref 145, .int (nI i)] [.int y] M := by
  have e1 : nI i + 1 = nI (i + 1) := nI_add i 1
  have c1 : (nI (i + 1)).toNatClampNeg = i + 1 := ycl (by omega)
  have r : (zix (nI i + 1) xs.length (gL xs Q 1788 [.retAddr 1, .ref 0, .ref 145, .int (nI i)] [.int (xs.getD (nI i + 1).toNatClampNeg 0), .ref 145, .int y] M)) := by
    rw [e1, c1]
    exact (zix_n (by omega) (by omega) hh)
  exact zseg (zcall_m xs 100) 9 [1788] r
set_option maxRecDepth 100000 in
theorem lD_49 {y : Int32} {v1 : Value} (hh : zcall xs 100 281 (zFx t, IL) [.ref 145, v1] (zkI (zFx t) fun IL1 y2 => gL xs Q 1791 [.retAddr 1, .ref 0, .ref 145, .int (nI i)] [.int y2, .int y] (zFx t, IL1))) : gL xs Q 1788 [.retAddr 1, .ref 0, .ref 145, .int (nI i)] [v1, .ref 145, .int y] (zFx t, IL) := zseg (zcall_m xs 100) 3 [1791] hh
set_option maxRecDepth 100000 in
theorem lE_49 {y y2 : Int32} (hh : zif2 (decide ((y : Int32) = y2)) (gL xs Q 1819 [.retAddr 1, .ref 0, .ref 145, .int (nI i)] [] M) (Q M (some (.int 0)))) : gL xs Q 1791 [.retAddr 1, .ref 0, .ref 145, .int (nI i)] [.int y2, .int y] M := zseg (zcall_m xs 100) 6 [1819] hh
set_option maxRecDepth 100000 in
theorem lA_50 (hl : xs.length ≤ 3072) (hi : i + 6 ≤ xs.length) (hh : gL xs Q 1802 [.retAddr 1, .ref 0, .ref 145, .int (nI i)] [.int (xs.getD (i + 1) 0), .ref 0] M) : gL xs Q 1796 [.retAddr 1, .ref 0, .ref 145, .int (nI i)] [] M := by
  have e1 : nI i + 1 = nI (i + 1) := nI_add i 1
  have c1 : (nI (i + 1)).toNatClampNeg = i + 1 := ycl (by omega)
  have r : (zix (nI i + 1) xs.length (gL xs Q 1802 [.retAddr 1, .ref 0, .ref 145, .int (nI i)] [.int (xs.getD (nI i + 1).toNatClampNeg 0), .ref 0] M)) := by
    rw [e1, c1]
    exact (zix_n (by omega) (by omega) hh)
  exact zseg (zcall_m xs 100) 9 [1802] r
set_option maxRecDepth 100000 in
theorem lB_50 {v1 : Value} (hh : zcall xs 100 137 (zFx t, IL) [.ref 0, v1] (zkI (zFx t) fun IL1 y => gL xs Q 1805 [.retAddr 1, .ref 0, .ref 145, .int (nI i)] [.int y] (zFx t, IL1))) : gL xs Q 1802 [.retAddr 1, .ref 0, .ref 145, .int (nI i)] [v1, .ref 0] (zFx t, IL) := zseg (zcall_m xs 100) 3 [1805] hh
set_option maxRecDepth 100000 in
theorem lC_50 {y : Int32} (hl : xs.length ≤ 3072) (hi : i + 6 ≤ xs.length) (hh : gL xs Q 1811 [.retAddr 1, .ref 0, .ref 145, .int (nI i)] [.int (xs.getD (i + 1) 0), .ref 145, .int y] M) : gL xs Q 1805 [.retAddr 1, .ref 0, .ref 145, .int (nI i)] [.int y] M := by
  have e1 : nI i + 1 = nI (i + 1) := nI_add i 1
  have c1 : (nI (i + 1)).toNatClampNeg = i + 1 := ycl (by omega)
  have r : (zix (nI i + 1) xs.length (gL xs Q 1811 [.retAddr 1, .ref 0, .ref 145, .int (nI i)] [.int (xs.getD (nI i + 1).toNatClampNeg 0), .ref 145, .int y] M)) := by
    rw [e1, c1]
    exact (zix_n (by omega) (by omega) hh)
  exact zseg (zcall_m xs 100) 9 [1811] r
set_option maxRecDepth 100000 in
theorem lD_50 {y : Int32} {v1 : Value} (hh : zcall xs 100 282 (zFx t, IL) [.ref 145, v1] (zkI (zFx t) fun IL1 y2 => gL xs Q 1814 [.retAddr 1, .ref 0, .ref 145, .int (nI i)] [.int y2, .int y] (zFx t, IL1))) : gL xs Q 1811 [.retAddr 1, .ref 0, .ref 145, .int (nI i)] [v1, .ref 145, .int y] (zFx t, IL) := zseg (zcall_m xs 100) 3 [1814] hh
set_option maxRecDepth 100000 in
theorem lE_50 {y y2 : Int32} (hh : zif2 (decide ((y : Int32) = y2)) (gL xs Q 1819 [.retAddr 1, .ref 0, .ref 145, .int (nI i)] [] M) (Q M (some (.int 0)))) : gL xs Q 1814 [.retAddr 1, .ref 0, .ref 145, .int (nI i)] [.int y2, .int y] M := zseg (zcall_m xs 100) 6 [1819] hh
end LAWSEG
