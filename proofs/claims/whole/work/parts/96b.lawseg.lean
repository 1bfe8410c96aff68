/-! the law: cases of its switch, in pieces -/
section LAWSEG
variable {xs : List Int32} {Q : zQ} {i : Nat} {t : Bool} {IL : zIL} {M : zM}
set_option maxRecDepth 100000 in
theorem lA_0 (hl : xs.length ≤ 3072) (hi : i + 6 ≤ xs.length) (hh : gL xs Q 278 [.retAddr 1, .ref 0, .ref 145, .int (nI i)] [.int (xs.getD (i + 5) 0), .int (xs.getD (i + 4) 0), .int (xs.getD (i + 3) 0), .int (xs.getD (i + 2) 0), .int (xs.getD (i + 1) 0), .ref 0] M) : gL xs Q 252 [.retAddr 1, .ref 0, .ref 145, .int (nI i)] [] M := by
  have e1 : nI i + 1 = nI (i + 1) := nI_add i 1
  have c1 : (nI (i + 1)).toNatClampNeg = i + 1 := ycl (by omega)
  have e2 : nI i + 2 = nI (i + 2) := nI_add i 2
  have c2 : (nI (i + 2)).toNatClampNeg = i + 2 := ycl (by omega)
  have e3 : nI i + 3 = nI (i + 3) := nI_add i 3
  have c3 : (nI (i + 3)).toNatClampNeg = i + 3 := ycl (by omega)
  have e4 : nI i + 4 = nI (i + 4) := nI_add i 4
  have c4 : (nI (i + 4)).toNatClampNeg = i + 4 := ycl (by omega)
  have e5 : nI i + 5 = nI (i + 5) := nI_add i 5
  have c5 : (nI (i + 5)).toNatClampNeg = i + 5 := ycl (by omega)
  have r : (zix (nI i + 1) xs.length (zix (nI i + 2) xs.length (zix (nI i + 3) xs.length (zix (nI i + 4) xs.length (zix (nI i + 5) xs.length (gL xs Q 278 [.retAddr 1, .ref 0, .ref 145, .int (nI i)] [.int (xs.getD (nI i + 5).toNatClampNeg 0), .int (xs.getD (nI i + 4).toNatClampNeg 0), .int (xs.getD (nI i + 3).toNatClampNeg 0), .int (xs.getD (nI i + 2).toNatClampNeg 0), .int (xs.getD (nI i + 1).toNatClampNeg 0), .ref 0] M)))))) := by
    rw [e1, e2, e3, e4, e5, c1, c2, c3, c4, c5]
    exact (zix_n (by omega) (by omega) (zix_n (by omega) (by omega) (zix_n (by omega) (by omega) (zix_n (by omega) (by omega) (zix_n (by omega) (by omega) hh)))))
  exact zseg (zcall_m xs 100) 29 [278] r
set_option maxRecDepth 100000 in
theorem lB_0 {v1 v2 v3 v4 v5 : Value} (hh : zcall xs 100 87 (zFx t, IL) [.ref 0, v1, v2, v3, v4, v5] (zkI (zFx t) fun IL1 y => gL xs Q 281 [.retAddr 1, .ref 0, .ref 145, .int (nI i)] [.int y] (zFx t, IL1))) : gL xs Q 278 [.retAddr 1, .ref 0, .ref 145, .int (nI i)] [v5, v4, v3, v2, v1, .ref 0] (zFx t, IL) := zseg (zcall_m xs 100) 3 [281] hh
set_option maxRecDepth 100000 in
theorem lC_0 {y : Int32} (hl : xs.length ≤ 3072) (hi : i + 6 ≤ xs.length) (hh : gL xs Q 307 [.retAddr 1, .ref 0, .ref 145, .int (nI i)] [.int (xs.getD (i + 5) 0), .int (xs.getD (i + 4) 0), .int (xs.getD (i + 3) 0), .int (xs.getD (i + 2) 0), .int (xs.getD (i + 1) 0), .ref 145, .int y] M) : gL xs Q 281 [.retAddr 1, .ref 0, .ref 145, .int (nI i)] [.int y] M := by
  have e1 : nI i + 1 = nI (i + 1) := nI_add i 1
  have c1 : (nI (i + 1)).toNatClampNeg = i + 1 := ycl (by omega)
  have e2 : nI i + 2 = nI (i + 2) := nI_add i 2
  have c2 : (nI (i + 2)).toNatClampNeg = i + 2 := ycl (by omega)
  have e3 : nI i + 3 = nI (i + 3) := nI_add i 3
  have c3 : (nI (i + 3)).toNatClampNeg = i + 3 := ycl (by omega)
  have e4 : nI i + 4 = nI (i + 4) := nI_add i 4
  have c4 : (nI (i + 4)).toNatClampNeg = i + 4 := ycl (by omega)
  have e5 : nI i + 5 = nI (i + 5) := nI_add i 5
  have c5 : (nI (i + 5)).toNatClampNeg = i + 5 := ycl (by omega)
  have r : (zix (nI i + 1) xs.length (zix (nI i + 2) xs.length (zix (nI i + 3) xs.length (zix (nI i + 4) xs.length (zix (nI i + 5) xs.length (gL xs Q 307 [.retAddr 1, .ref 0, .ref 145, .int (nI i)] [.int (xs.getD (nI i + 5).toNatClampNeg 0), .int (xs.getD (nI i + 4).toNatClampNeg 0), .int (xs.getD (nI i + 3).toNatClampNeg 0), .int (xs.getD (nI i + 2).toNatClampNeg 0), .int (xs.getD (nI i + 1).toNatClampNeg 0), .ref 145, .int y] M)))))) := by
    rw [e1, e2, e3, e4, e5, c1, c2, c3, c4, c5]
    exact (zix_n (by omega) (by omega) (zix_n (by omega) (by omega) (zix_n (by omega) (by omega) (zix_n (by omega) (by omega) (zix_n (by omega) (by omega) hh)))))
  exact zseg (zcall_m xs 100) 29 [307] r
set_option maxRecDepth 100000 in
theorem lD_0 {y : Int32} {v1 v2 v3 v4 v5 : Value} (hh : zcall xs 100 154 (zFx t, IL) [.ref 145, v1, v2, v3, v4, v5] (zkI (zFx t) fun IL1 y2 => gL xs Q 310 [.retAddr 1, .ref 0, .ref 145, .int (nI i)] [.int y2, .int y] (zFx t, IL1))) : gL xs Q 307 [.retAddr 1, .ref 0, .ref 145, .int (nI i)] [v5, v4, v3, v2, v1, .ref 145, .int y] (zFx t, IL) := zseg (zcall_m xs 100) 3 [310] hh
set_option maxRecDepth 100000 in
theorem lE_0 {y y2 : Int32} (hh : zif2 (decide ((y : Int32) = y2)) (gL xs Q 1819 [.retAddr 1, .ref 0, .ref 145, .int (nI i)] [] M) (Q M (some (.int 0)))) : gL xs Q 310 [.retAddr 1, .ref 0, .ref 145, .int (nI i)] [.int y2, .int y] M := zseg (zcall_m xs 100) 6 [1819] hh
set_option maxRecDepth 100000 in
theorem lA_1 (hl : xs.length ≤ 3072) (hi : i + 6 ≤ xs.length) (hh : gL xs Q 321 [.retAddr 1, .ref 0, .ref 145, .int (nI i)] [.int (xs.getD (i + 1) 0), .ref 0] M) : gL xs Q 315 [.retAddr 1, .ref 0, .ref 145, .int (nI i)] [] M := by
  have e1 : nI i + 1 = nI (i + 1) := nI_add i 1
  have c1 : (nI (i + 1)).toNatClampNeg = i + 1 := ycl (by omega)
  have r : (zix (nI i + 1) xs.length (gL xs Q 321 [.retAddr 1, .ref 0, .ref 145, .int (nI i)] [.int (xs.getD (nI i + 1).toNatClampNeg 0), .ref 0] M)) := by
    rw [e1, c1]
    exact (zix_n (by omega) (by omega) hh)
  exact zseg (zcall_m xs 100) 9 [321] r
set_option maxRecDepth 100000 in
theorem lB_1 {v1 : Value} (hh : zcall xs 100 88 (zFx t, IL) [.ref 0, v1] (zkI (zFx t) fun IL1 y => gL xs Q 324 [.retAddr 1, .ref 0, .ref 145, .int (nI i)] [.int y] (zFx t, IL1))) : gL xs Q 321 [.retAddr 1, .ref 0, .ref 145, .int (nI i)] [v1, .ref 0] (zFx t, IL) := zseg (zcall_m xs 100) 3 [324] hh
set_option maxRecDepth 100000 in
theorem lC_1 {y : Int32} (hl : xs.length ≤ 3072) (hi : i + 6 ≤ xs.length) (hh : gL xs Q 330 [.retAddr 1, .ref 0, .ref 145, .int (nI i)] [.int (xs.getD (i + 1) 0), .ref 145, .int y] M) : gL xs Q 324 [.retAddr 1, .ref 0, .ref 145, .int (nI i)] [.int y] M := by
  have e1 : nI i + 1 = nI (i + 1) := nI_add i 1
  have c1 : (nI (i + 1)).toNatClampNeg = i + 1 := ycl (by omega)
  have r : (zix (nI i + 1) xs.length (gL xs Q 330 [.retAddr 1, .ref 0, .ref 145, .int (nI i)] [.int (xs.getD (nI i + 1).toNatClampNeg 0), .ref 145, .int y] M)) := by
    rw [e1, c1]
    exact (zix_n (by omega) (by omega) hh)
  exact zseg (zcall_m xs 100) 9 [330] r
set_option maxRecDepth 100000 in
theorem lD_1 {y : Int32} {v1 : Value} (hh : zcall xs 100 156 (zFx t, IL) [.ref 145, v1] (zkI (zFx t) fun IL1 y2 => gL xs Q 333 [.retAddr 1, .ref 0, .ref 145, .int (nI i)] [.int y2, .int y] (zFx t, IL1))) : gL xs Q 330 [.retAddr 1, .ref 0, .ref 145, .int (nI i)] [v1, .ref 145, .int y] (zFx t, IL) := zseg (zcall_m xs 100) 3 [333] hh
set_option maxRecDepth 100000 in
theorem lE_1 {y y2 : Int32} (hh : zif2 (decide ((y : Int32) = y2)) (gL xs Q 1819 [.retAddr 1, .ref 0, .ref 145, .int (nI i)] [] M) (Q M (some (.int 0)))) : gL xs Q 333 [.retAddr 1, .ref 0, .ref 145, .int (nI i)] [.int y2, .int y] M := zseg (zcall_m xs 100) 6 [1819] hh
set_option maxRecDepth 100000 in
theorem lA_2 (hl : xs.length ≤ 3072) (hi : i + 6 ≤ xs.length) (hh : gL xs Q 339 [.retAddr 1, .ref 0, .ref 145, .int (nI i)] [.ref 0] M) : gL xs Q 338 [.retAddr 1, .ref 0, .ref 145, .int (nI i)] [] M := by
  exact zseg (zcall_m xs 100) 4 [339] hh
set_option maxRecDepth 100000 in
theorem lB_2 (hh : zcall xs 100 89 (zFx t, IL) [.ref 0] (zuI 179 7611 fun M y => gL xs Q 342 [.retAddr 1, .ref 0, .ref 145, .int (nI i)] [.int y] M)) : gL xs Q 339 [.retAddr 1, .ref 0, .ref 145, .int (nI i)] [.ref 0] (zFx t, IL) := zseg (zcall_m xs 100) 3 [342] ⟨Nat.le_of_ble_eq_true rfl, Nat.le_of_ble_eq_true rfl, hh⟩
set_option maxRecDepth 100000 in
theorem lC_2 {y : Int32} (hl : xs.length ≤ 3072) (hi : i + 6 ≤ xs.length) (hh : gL xs Q 343 [.retAddr 1, .ref 0, .ref 145, .int (nI i)] [.ref 145, .int y] M) : gL xs Q 342 [.retAddr 1, .ref 0, .ref 145, .int (nI i)] [.int y] M := by
  exact zseg (zcall_m xs 100) 4 [343] hh
set_option maxRecDepth 100000 in
theorem lD_2 {y : Int32} (hh : zcall xs 100 195 (zFx t, IL) [.ref 145] (zkI (zFx t) fun IL1 y2 => gL xs Q 346 [.retAddr 1, .ref 0, .ref 145, .int (nI i)] [.int y2, .int y] (zFx t, IL1))) : gL xs Q 343 [.retAddr 1, .ref 0, .ref 145, .int (nI i)] [.ref 145, .int y] (zFx t, IL) := zseg (zcall_m xs 100) 3 [346] hh
set_option maxRecDepth 100000 in
theorem lE_2 {y y2 : Int32} (hh : zif2 (decide ((y : Int32) = y2)) (gL xs Q 1819 [.retAddr 1, .ref 0, .ref 145, .int (nI i)] [] M) (Q M (some (.int 0)))) : gL xs Q 346 [.retAddr 1, .ref 0, .ref 145, .int (nI i)] [.int y2, .int y] M := zseg (zcall_m xs 100) 6 [1819] hh
set_option maxRecDepth 100000 in
theorem lA_3 (hl : xs.length ≤ 3072) (hi : i + 6 ≤ xs.length) (hh : gL xs Q 357 [.retAddr 1, .ref 0, .ref 145, .int (nI i)] [.int (xs.getD (i + 1) 0), .ref 0] M) : gL xs Q 351 [.retAddr 1, .ref 0, .ref 145, .int (nI i)] [] M := by
  have e1 : nI i + 1 = nI (i + 1) := nI_add i 1
  have c1 : (nI (i + 1)).toNatClampNeg = i + 1 := ycl (by omega)
  have r : (zix (nI i + 1) xs.length (gL xs Q 357 [.retAddr 1, .ref 0, .ref 145, .int (nI i)] [.int (xs.getD (nI i + 1).toNatClampNeg 0), .ref 0] M)) := by
    rw [e1, c1]
    exact (zix_n (by omega) (by omega) hh)
  exact zseg (zcall_m xs 100) 9 [357] r
set_option maxRecDepth 100000 in
theorem lB_3 {v1 : Value} (hh : zcall xs 100 90 (zFx t, IL) [.ref 0, v1] (zkI (zFx t) fun IL1 y => gL xs Q 360 [.retAddr 1, .ref 0, .ref 145, .int (nI i)] [.int y] (zFx t, IL1))) : gL xs Q 357 [.retAddr 1, .ref 0, .ref 145, .int (nI i)] [v1, .ref 0] (zFx t, IL) := zseg (zcall_m xs 100) 3 [360] hh
set_option maxRecDepth 100000 in
theorem lC_3 {y : Int32} (hl : xs.length ≤ 3072) (hi : i + 6 ≤ xs.length) (hh : gL xs Q 366 [.retAddr 1, .ref 0, .ref 145, .int (nI i)] [.int (xs.getD (i + 1) 0), .ref 145, .int y] M) : gL xs Q 360 [.retAddr 1, .ref 0, .ref 145, .int (nI i)] [.int y] M := by
  have e1 : nI i + 1 = nI (i + 1) := nI_add i 1
  have c1 : (nI (i + 1)).toNatClampNeg = i + 1 := ycl (by omega)
  have r : (zix (nI i + 1) xs.length (gL xs Q 366 [.retAddr 1, .ref 0, .ref 145, .int (nI i)] [.int (xs.getD (nI i + 1).toNatClampNeg 0), .ref 145, .int y] M)) := by
    rw [e1, c1]
    exact (zix_n (by omega) (by omega) hh)
  exact zseg (zcall_m xs 100) 9 [366] r
set_option maxRecDepth 100000 in
theorem lD_3 {y : Int32} {v1 : Value} (hh : zcall xs 100 196 (zFx t, IL) [.ref 145, v1] (zkI (zFx t) fun IL1 y2 => gL xs Q 369 [.retAddr 1, .ref 0, .ref 145, .int (nI i)] [.int y2, .int y] (zFx t, IL1))) : gL xs Q 366 [.retAddr 1, .ref 0, .ref 145, .int (nI i)] [v1, .ref 145, .int y] (zFx t, IL) := zseg (zcall_m xs 100) 3 [369] hh
set_option maxRecDepth 100000 in
theorem lE_3 {y y2 : Int32} (hh : zif2 (decide ((y : Int32) = y2)) (gL xs Q 1819 [.retAddr 1, .ref 0, .ref 145, .int (nI i)] [] M) (Q M (some (.int 0)))) : gL xs Q 369 [.retAddr 1, .ref 0, .ref 145, .int (nI i)] [.int y2, .int y] M := zseg (zcall_m xs 100) 6 [1819] hh
set_option maxRecDepth 100000 in
theorem lA_4 (hl : xs.length ≤ 3072) (hi : i + 6 ≤ xs.length) (hh : gL xs Q 385 [.retAddr 1, .ref 0, .ref 145, .int (nI i)] [.int (xs.getD (i + 2) 0), .int (xs.getD (i + 1) 0), .ref 0] M) : gL xs Q 374 [.retAddr 1, .ref 0, .ref 145, .int (nI i)] [] M := by
  have e1 : nI i + 1 = nI (i + 1) := nI_add i 1
  have c1 : (nI (i + 1)).toNatClampNeg = i + 1 := ycl (by omega)
  have e2 : nI i + 2 = nI (i + 2) := nI_add i 2
  have c2 : (nI (i + 2)).toNatClampNeg = i + 2 := ycl (by omega)
  have r : (zix (nI i + 1) xs.length (zix (nI i + 2) xs.length (gL xs Q 385 [.retAddr 1, .ref 0, .ref 145, .int (nI i)] [.int (xs.getD (nI i + 2).toNatClampNeg 0), .int (xs.getD (nI i + 1).toNatClampNeg 0), .ref 0] M))) := by
    rw [e1, e2, c1, c2]
    exact (zix_n (by omega) (by omega) (zix_n (by omega) (by omega) hh))
  exact zseg (zcall_m xs 100) 14 [385] r
set_option maxRecDepth 100000 in
theorem lB_4 {v1 v2 : Value} (hh : zcall xs 100 91 (zFx t, IL) [.ref 0, v1, v2] (zkI (zFx t) fun IL1 y => gL xs Q 388 [.retAddr 1, .ref 0, .ref 145, .int (nI i)] [.int y] (zFx t, IL1))) : gL xs Q 385 [.retAddr 1, .ref 0, .ref 145, .int (nI i)] [v2, v1, .ref 0] (zFx t, IL) := zseg (zcall_m xs 100) 3 [388] hh
set_option maxRecDepth 100000 in
theorem lC_4 {y : Int32} (hl : xs.length ≤ 3072) (hi : i + 6 ≤ xs.length) (hh : gL xs Q 399 [.retAddr 1, .ref 0, .ref 145, .int (nI i)] [.int (xs.getD (i + 2) 0), .int (xs.getD (i + 1) 0), .ref 145, .int y] M) : gL xs Q 388 [.retAddr 1, .ref 0, .ref 145, .int (nI i)] [.int y] M := by
  have e1 : nI i + 1 = nI (i + 1) := nI_add i 1
  have c1 : (nI (i + 1)).toNatClampNeg = i + 1 := ycl (by omega)
  have e2 : nI i + 2 = nI (i + 2) := nI_add i 2
  have c2 : (nI (i + 2)).toNatClampNeg = i + 2 := ycl (by omega)
  have r : (zix (nI i + 1) xs.length (zix (nI i + 2) xs.length (gL xs Q 399 [.retAddr 1, .ref 0, .ref 145, .int (nI i)] [.int (xs.getD (nI i + 2).toNatClampNeg 0), .int (xs.getD (nI i + 1).toNatClampNeg 0), .ref 145, .int y] M))) := by
    rw [e1, e2, c1, c2]
    exact (zix_n (by omega) (by omega) (zix_n (by omega) (by omega) hh))
  exact zseg (zcall_m xs 100) 14 [399] r
set_option maxRecDepth 100000 in
theorem lD_4 {y : Int32} {v1 v2 : Value} (hh : zcall xs 100 211 (zFx t, IL) [.ref 145, v1, v2] (zkI (zFx t) fun IL1 y2 => gL xs Q 402 [.retAddr 1, .ref 0, .ref 145, .int (nI i)] [.int y2, .int y] (zFx t, IL1))) : gL xs Q 399 [.retAddr 1, .ref 0, .ref 145, .int (nI i)] [v2, v1, .ref 145, .int y] (zFx t, IL) := zseg (zcall_m xs 100) 3 [402] hh
set_option maxRecDepth 100000 in
theorem lE_4 {y y2 : Int32} (hh : zif2 (decide ((y : Int32) = y2)) (gL xs Q 1819 [.retAddr 1, .ref 0, .ref 145, .int (nI i)] [] M) (Q M (some (.int 0)))) : gL xs Q 402 [.retAddr 1, .ref 0, .ref 145, .int (nI i)] [.int y2, .int y] M := zseg (zcall_m xs 100) 6 [1819] hh
set_option maxRecDepth 100000 in
theorem lA_5 (hl : xs.length ≤ 3072) (hi : i + 6 ≤ xs.length) (hh : gL xs Q 418 [.retAddr 1, .ref 0, .ref 145, .int (nI i)] [.int (xs.getD (i + 2) 0), .int (xs.getD (i + 1) 0), .ref 0] M) : gL xs Q 407 [.retAddr 1, .ref 0, .ref 145, .int (nI i)] [] M := by
  have e1 : nI i + 1 = nI (i + 1) := nI_add i 1
  have c1 : (nI (i + 1)).toNatClampNeg = i + 1 := ycl (by omega)
  have e2 : nI i + 2 = nI (i + 2) := nI_add i 2
  have c2 : (nI (i + 2)).toNatClampNeg = i + 2 := ycl (by omega)
  have r : (zix (nI i + 1) xs.length (zix (nI i + 2) xs.length (gL xs Q 418 [.retAddr 1, .ref 0, .ref 145, .int (nI i)] [.int (xs.getD (nI i + 2).toNatClampNeg 0), .int (xs.getD (nI i + 1).toNatClampNeg 0), .ref 0] M))) := by
    rw [e1, e2, c1, c2]
    exact (zix_n (by omega) (by omega) (zix_n (by omega) (by omega) hh))
  exact zseg (zcall_m xs 100) 14 [418] r
set_option maxRecDepth 100000 in
theorem lB_5 {v1 v2 : Value} (hh : zcall xs 100 92 (zFx t, IL) [.ref 0, v1, v2] (zkI (zFx t) fun IL1 y => gL xs Q 421 [.retAddr 1, .ref 0, .ref 145, .int (nI i)] [.int y] (zFx t, IL1))) : gL xs Q 418 [.retAddr 1, .ref 0, .ref 145, .int (nI i)] [v2, v1, .ref 0] (zFx t, IL) := zseg (zcall_m xs 100) 3 [421] hh
set_option maxRecDepth 100000 in
theorem lC_5 {y : Int32} (hl : xs.length ≤ 3072) (hi : i + 6 ≤ xs.length) (hh : gL xs Q 432 [.retAddr 1, .ref 0, .ref 145, .int (nI i)] [.int (xs.getD (i + 2) 0), .int (xs.getD (i + 1) 0), .ref 145, .int y] M) : gL xs Q 421 [.retAddr 1, .ref 0, .ref 145, .int (nI i)] [.int y] M := by
  have e1 : nI i + 1 = nI (i + 1) := nI_add i 1
  have c1 : (nI (i + 1)).toNatClampNeg = i + 1 := ycl (by omega)
  have e2 : nI i + 2 = nI (i + 2) := nI_add i 2
  have c2 : (nI (i + 2)).toNatClampNeg = i + 2 := ycl (by omega)
  have r : (zix (nI i + 1) xs.length (zix (nI i + 2) xs.length (gL xs Q 432 [.retAddr 1, .ref 0, .ref 145, .int (nI i)] [.int (xs.getD (nI i + 2).toNatClampNeg 0), .int (xs.getD (nI i + 1).toNatClampNeg 0), .ref 145, .int y] M))) := by
    rw [e1, e2, c1, c2]
    exact (zix_n (by omega) (by omega) (zix_n (by omega) (by omega) hh))
  exact zseg (zcall_m xs 100) 14 [432] r
set_option maxRecDepth 100000 in
theorem lD_5 {y : Int32} {v1 v2 : Value} (hh : zcall xs 100 212 (zFx t, IL) [.ref 145, v1, v2] (zkI (zFx t) fun IL1 y2 => gL xs Q 435 [.retAddr 1, .ref 0, .ref 145, .int (nI i)] [.int y2, .int y] (zFx t, IL1))) : gL xs Q 432 [.retAddr 1, .ref 0, .ref 145, .int (nI i)] [v2, v1, .ref 145, .int y] (zFx t, IL) := zseg (zcall_m xs 100) 3 [435] hh
set_option maxRecDepth 100000 in
theorem lE_5 {y y2 : Int32} (hh : zif2 (decide ((y : Int32) = y2)) (gL xs Q 1819 [.retAddr 1, .ref 0, .ref 145, .int (nI i)] [] M) (Q M (some (.int 0)))) : gL xs Q 435 [.retAddr 1, .ref 0, .ref 145, .int (nI i)] [.int y2, .int y] M := zseg (zcall_m xs 100) 6 [1819] hh
set_option maxRecDepth 100000 in
theorem lA_6 (hl : xs.length ≤ 3072) (hi : i + 6 ≤ xs.length) (hh : gL xs Q 464 [.retAddr 1, .ref 0, .ref 145, .int (nI i)] [.int (ybo (xs.getD (i + 3) 0)), .int (xs.getD (i + 2) 0), .int (xs.getD (i + 1) 0), .ref 0] M) : gL xs Q 440 [.retAddr 1, .ref 0, .ref 145, .int (nI i)] [] M := by
  have e1 : nI i + 1 = nI (i + 1) := nI_add i 1
  have c1 : (nI (i + 1)).toNatClampNeg = i + 1 := ycl (by omega)
  have e2 : nI i + 2 = nI (i + 2) := nI_add i 2
  have c2 : (nI (i + 2)).toNatClampNeg = i + 2 := ycl (by omega)
  have e3 : nI i + 3 = nI (i + 3) := nI_add i 3
  have c3 : (nI (i + 3)).toNatClampNeg = i + 3 := ycl (by omega)
  by_cases z : xs.getD (i + 3) 0 = 0
  · rw [ybo_0 z] at hh
    have r : (zix (nI i + 1) xs.length (zix (nI i + 2) xs.length (zix (nI i + 3) xs.length (zif2 (decide ((xs.getD (nI i + 3).toNatClampNeg 0 : Int32) = 0)) (gL xs Q 464 [.retAddr 1, .ref 0, .ref 145, .int (nI i)] [.int 0, .int (xs.getD (nI i + 2).toNatClampNeg 0), .int (xs.getD (nI i + 1).toNatClampNeg 0), .ref 0] M) (gL xs Q 464 [.retAddr 1, .ref 0, .ref 145, .int (nI i)] [.int 1, .int (xs.getD (nI i + 2).toNatClampNeg 0), .int (xs.getD (nI i + 1).toNatClampNeg 0), .ref 0] M))))) := by
      rw [e1, e2, e3, c1, c2, c3]
      exact (zix_n (by omega) (by omega) (zix_n (by omega) (by omega) (zix_n (by omega) (by omega) (zdec (fun _ => hh) (fun q => absurd z q)))))
    exact zseg (zcall_m xs 100) 23 [464] r
  · rw [ybo_1 z] at hh
    have r : (zix (nI i + 1) xs.length (zix (nI i + 2) xs.length (zix (nI i + 3) xs.length (zif2 (decide ((xs.getD (nI i + 3).toNatClampNeg 0 : Int32) = 0)) (gL xs Q 464 [.retAddr 1, .ref 0, .ref 145, .int (nI i)] [.int 0, .int (xs.getD (nI i + 2).toNatClampNeg 0), .int (xs.getD (nI i + 1).toNatClampNeg 0), .ref 0] M) (gL xs Q 464 [.retAddr 1, .ref 0, .ref 145, .int (nI i)] [.int 1, .int (xs.getD (nI i + 2).toNatClampNeg 0), .int (xs.getD (nI i + 1).toNatClampNeg 0), .ref 0] M))))) := by
      rw [e1, e2, e3, c1, c2, c3]
      exact (zix_n (by omega) (by omega) (zix_n (by omega) (by omega) (zix_n (by omega) (by omega) (zdec (fun q => absurd q z) (fun _ => hh)))))
    exact zseg (zcall_m xs 100) 23 [464] r
set_option maxRecDepth 100000 in
theorem lB_6 {v1 v2 v3 : Value} (hh : zcall xs 100 93 (zFx t, IL) [.ref 0, v1, v2, v3] (zkI (zFx t) fun IL1 y => gL xs Q 467 [.retAddr 1, .ref 0, .ref 145, .int (nI i)] [.int y] (zFx t, IL1))) : gL xs Q 464 [.retAddr 1, .ref 0, .ref 145, .int (nI i)] [v3, v2, v1, .ref 0] (zFx t, IL) := zseg (zcall_m xs 100) 3 [467] hh
set_option maxRecDepth 100000 in
theorem lC_6 {y : Int32} (hl : xs.length ≤ 3072) (hi : i + 6 ≤ xs.length) (hh : gL xs Q 491 [.retAddr 1, .ref 0, .ref 145, .int (nI i)] [.int (ybo (xs.getD (i + 3) 0)), .int (xs.getD (i + 2) 0), .int (xs.getD (i + 1) 0), .ref 145, .int y] M) : gL xs Q 467 [.retAddr 1, .ref 0, .ref 145, .int (nI i)] [.int y] M := by
  have e1 : nI i + 1 = nI (i + 1) := nI_add i 1
  have c1 : (nI (i + 1)).toNatClampNeg = i + 1 := ycl (by omega)
  have e2 : nI i + 2 = nI (i + 2) := nI_add i 2
  have c2 : (nI (i + 2)).toNatClampNeg = i + 2 := ycl (by omega)
  have e3 : nI i + 3 = nI (i + 3) := nI_add i 3
  have c3 : (nI (i + 3)).toNatClampNeg = i + 3 := ycl (by omega)
  by_cases z : xs.getD (i + 3) 0 = 0
  · rw [ybo_0 z] at hh
    have r : (zix (nI i + 1) xs.length (zix (nI i + 2) xs.length (zix (nI i + 3) xs.length (zif2 (decide ((xs.getD (nI i + 3).toNatClampNeg 0 : Int32) = 0)) (gL xs Q 491 [.retAddr 1, .ref 0, .ref 145, .int (nI i)] [.int 0, .int (xs.getD (nI i + 2).toNatClampNeg 0), .int (xs.getD (nI i + 1).toNatClampNeg 0), .ref 145, .int y] M) (gL xs Q 491 [.retAddr 1, .ref 0, .ref 145, .int (nI i)] [.int 1, .int (xs.getD (nI i + 2).toNatClampNeg 0), .int (xs.getD (nI i + 1).toNatClampNeg 0), .ref 145, .int y] M))))) := by
      rw [e1, e2, e3, c1, c2, c3]
      exact (zix_n (by omega) (by omega) (zix_n (by omega) (by omega) (zix_n (by omega) (by omega) (zdec (fun _ => hh) (fun q => absurd z q)))))
    exact zseg (zcall_m xs 100) 23 [491] r
  · rw [ybo_1 z] at hh
    have r : (zix (nI i + 1) xs.length (zix (nI i + 2) xs.length (zix (nI i + 3) xs.length (zif2 (decide ((xs.getD (nI i + 3).toNatClampNeg 0 : Int32) = 0)) (gL xs Q 491 [.retAddr 1, .ref 0, .ref 145, .int (nI i)] [.int 0, .int (xs.getD (nI i + 2).toNatClampNeg 0), .int (xs.getD (nI i + 1).toNatClampNeg 0), .ref 145, .int y] M) (gL xs Q 491 [.retAddr 1, .ref 0, .ref 145, .int (nI i)] [.int 1, .int (xs.getD (nI i + 2).toNatClampNeg 0), .int (xs.getD (nI i + 1).toNatClampNeg 0), .ref 145, .int y] M))))) := by
      rw [e1, e2, e3, c1, c2, c3]
      exact (zix_n (by omega) (by omega) (zix_n (by omega) (by omega) (zix_n (by omega) (by omega) (zdec (fun q => absurd q z) (fun _ => hh)))))
    exact zseg (zcall_m xs 100) 23 [491] r
set_option maxRecDepth 100000 in
theorem lD_6 {y : Int32} {v1 v2 v3 : Value} (hh : zcall xs 100 214 (zFx t, IL) [.ref 145, v1, v2, v3] (zkI (zFx t) fun IL1 y2 => gL xs Q 494 [.retAddr 1, .ref 0, .ref 145, .int (nI i)] [.int y2, .int y] (zFx t, IL1))) : gL xs Q 491 [.retAddr 1, .ref 0, .ref 145, .int (nI i)] [v3, v2, v1, .ref 145, .int y] (zFx t, IL) := zseg (zcall_m xs 100) 3 [494] hh
set_option maxRecDepth 100000 in
theorem lE_6 {y y2 : Int32} (hh : zif2 (decide ((y : Int32) = y2)) (gL xs Q 1819 [.retAddr 1, .ref 0, .ref 145, .int (nI i)] [] M) (Q M (some (.int 0)))) : gL xs Q 494 [.retAddr 1, .ref 0, .ref 145, .int (nI i)] [.int y2, .int y] M := zseg (zcall_m xs 100) 6 [1819] hh
set_option maxRecDepth 100000 in
theorem lA_7 (hl : xs.length ≤ 3072) (hi : i + 6 ≤ xs.length) (hh : gL xs Q 518 [.retAddr 1, .ref 0, .ref 145, .int (nI i)] [.int (ybo (xs.getD (i + 2) 0)), .int (xs.getD (i + 1) 0), .ref 0] M) : gL xs Q 499 [.retAddr 1, .ref 0, .ref 145, .int (nI i)] [] M := by
  have e1 : nI i + 1 = nI (i + 1) := nI_add i 1
  have c1 : (nI (i + 1)).toNatClampNeg = i + 1 := ycl (by omega)
  have e2 : nI i + 2 = nI (i + 2) := nI_add i 2
  have c2 : (nI (i + 2)).toNatClampNeg = i + 2 := ycl (by omega)
  by_cases z : xs.getD (i + 2) 0 = 0
  · rw [ybo_0 z] at hh
    have r : (zix (nI i + 1) xs.length (zix (nI i + 2) xs.length (zif2 (decide ((xs.getD (nI i + 2).toNatClampNeg 0 : Int32) = 0)) (gL xs Q 518 [.retAddr 1, .ref 0, .ref 145, .int (nI i)] [.int 0, .int (xs.getD (nI i + 1).toNatClampNeg 0), .ref 0] M) (gL xs Q 518 [.retAddr 1, .ref 0, .ref 145, .int (nI i)] [.int 1, .int (xs.getD (nI i + 1).toNatClampNeg 0), .ref 0] M)))) := by
      rw [e1, e2, c1, c2]
      exact (zix_n (by omega) (by omega) (zix_n (by omega) (by omega) (zdec (fun _ => hh) (fun q => absurd z q))))
    exact zseg (zcall_m xs 100) 18 [518] r
  · rw [ybo_1 z] at hh
    have r : (zix (nI i + 1) xs.length (zix (nI i + 2) xs.length (zif2 (decide ((xs.getD (nI i + 2).toNatClampNeg 0 : Int32) = 0)) (gL xs Q 518 [.retAddr 1, .ref 0, .ref 145, .int (nI i)] [.int 0, .int (xs.getD (nI i + 1).toNatClampNeg 0), .ref 0] M) (gL xs Q 518 [.retAddr 1, .ref 0, .ref 145, .int (nI i)] [.int 1, .int (xs.getD (nI i + 1).toNatClampNeg 0), .ref 0] M)))) := by
      rw [e1, e2, c1, c2]
      exact (zix_n (by omega) (by omega) (zix_n (by omega) (by omega) (zdec (fun q => absurd q z) (fun _ => hh))))
    exact zseg (zcall_m xs 100) 18 [518] r
set_option maxRecDepth 100000 in
theorem lB_7 {v1 v2 : Value} (hh : zcall xs 100 94 (zFx t, IL) [.ref 0, v1, v2] (zkI (zFx t) fun IL1 y => gL xs Q 521 [.retAddr 1, .ref 0, .ref 145, .int (nI i)] [.int y] (zFx t, IL1))) : gL xs Q 518 [.retAddr 1, .ref 0, .ref 145, .int (nI i)] [v2, v1, .ref 0] (zFx t, IL) := zseg (zcall_m xs 100) 3 [521] hh
set_option maxRecDepth 100000 in
theorem lC_7 {y : Int32} (hl : xs.length ≤ 3072) (hi : i + 6 ≤ xs.length) (hh : gL xs Q 540 [.retAddr 1, .ref 0, .ref 145, .int (nI i)] [.int (ybo (xs.getD (i + 2) 0)), .int (xs.getD (i + 1) 0), .ref 145, .int y] M) : gL xs Q 521 [.retAddr 1, .ref 0, .ref 145, .int (nI i)] [.int y] M := by
  have e1 : nI i + 1 = nI (i + 1) := nI_add i 1
  have c1 : (nI (i + 1)).toNatClampNeg = i + 1 := ycl (by omega)
  have e2 : nI i + 2 = nI (i + 2) := nI_add i 2
  have c2 : (nI (i + 2)).toNatClampNeg = i + 2 := ycl (by omega)
  by_cases z : xs.getD (i + 2) 0 = 0
  · rw [ybo_0 z] at hh
    have r : (zix (nI i + 1) xs.length (zix (nI i + 2) xs.length (zif2 (decide ((xs.getD (nI i + 2).toNatClampNeg 0 : Int32) = 0)) (gL xs Q 540 [.retAddr 1, .ref 0, .ref 145, .int (nI i)] [.int 0, .int (xs.getD (nI i + 1).toNatClampNeg 0), .ref 145, .int y] M) (gL xs Q 540 [.retAddr 1, .ref 0, .ref 145, .int (nI i)] [.int 1, .int (xs.getD (nI i + 1).toNatClampNeg 0), .ref 145, .int y] M)))) := by
      rw [e1, e2, c1, c2]
      exact (zix_n (by omega) (by omega) (zix_n (by omega) (by omega) (zdec (fun _ => hh) (fun q => absurd z q))))
    exact zseg (zcall_m xs 100) 18 [540] r
  · rw [ybo_1 z] at hh
    have r : (zix (nI i + 1) xs.length (zix (nI i + 2) xs.length (zif2 (decide ((xs.getD (nI i + 2).toNatClampNeg 0 : Int32) = 0)) (gL xs Q 540 [.retAddr 1, .ref 0, .ref 145, .int (nI i)] [.int 0, .int (xs.getD (nI i + 1).toNatClampNeg 0), .ref 145, .int y] M) (gL xs Q 540 [.retAddr 1, .ref 0, .ref 145, .int (nI i)] [.int 1, .int (xs.getD (nI i + 1).toNatClampNeg 0), .ref 145, .int y] M)))) := by
      rw [e1, e2, c1, c2]
      exact (zix_n (by omega) (by omega) (zix_n (by omega) (by omega) (zdec (fun q => absurd q z) (fun _ => hh))))
    exact zseg (zcall_m xs 100) 18 [540] r
set_option maxRecDepth 100000 in
theorem lD_7 {y : Int32} {v1 v2 : Value} (hh : zcall xs 100 217 (zFx t, IL) [.ref 145, v1, v2] (zkI (zFx t) fun IL1 y2 => gL xs Q 543 [.retAddr 1, .ref 0, .ref 145, .int (nI i)] [.int y2, .int y] (zFx t, IL1))) : gL xs Q 540 [.retAddr 1, .ref 0, .ref 145, .int (nI i)] [v2, v1, .ref 145, .int y] (zFx t, IL) := zseg (zcall_m xs 100) 3 [543] hh
set_option maxRecDepth 100000 in
theorem lE_7 {y y2 : Int32} (hh : zif2 (decide ((y : Int32) = y2)) (gL xs Q 1819 [.retAddr 1, .ref 0, .ref 145, .int (nI i)] [] M) (Q M (some (.int 0)))) : gL xs Q 543 [.retAddr 1, .ref 0, .ref 145, .int (nI i)] [.int y2, .int y] M := zseg (zcall_m xs 100) 6 [1819] hh
set_option maxRecDepth 100000 in
theorem lA_8 (hl : xs.length ≤ 3072) (hi : i + 6 ≤ xs.length) (hh : gL xs Q 554 [.retAddr 1, .ref 0, .ref 145, .int (nI i)] [.int (xs.getD (i + 1) 0), .ref 0] M) : gL xs Q 548 [.retAddr 1, .ref 0, .ref 145, .int (nI i)] [] M := by
  have e1 : nI i + 1 = nI (i + 1) := nI_add i 1
  have c1 : (nI (i + 1)).toNatClampNeg = i + 1 := ycl (by omega)
  have r : (zix (nI i + 1) xs.length (gL xs Q 554 [.retAddr 1, .ref 0, .ref 145, .int (nI i)] [.int (xs.getD (nI i + 1).toNatClampNeg 0), .ref 0] M)) := by
    rw [e1, c1]
    exact (zix_n (by omega) (by omega) hh)
  exact zseg (zcall_m xs 100) 9 [554] r
set_option maxRecDepth 100000 in
theorem lB_8 {v1 : Value} (hh : zcall xs 100 95 (zFx t, IL) [.ref 0, v1] (zkI (zFx t) fun IL1 y => gL xs Q 557 [.retAddr 1, .ref 0, .ref 145, .int (nI i)] [.int y] (zFx t, IL1))) : gL xs Q 554 [.retAddr 1, .ref 0, .ref 145, .int (nI i)] [v1, .ref 0] (zFx t, IL) := zseg (zcall_m xs 100) 3 [557] hh
set_option maxRecDepth 100000 in
theorem lC_8 {y : Int32} (hl : xs.length ≤ 3072) (hi : i + 6 ≤ xs.length) (hh : gL xs Q 563 [.retAddr 1, .ref 0, .ref 145, .int (nI i)] [.int (xs.getD (i + 1) 0), .ref 145, .int y] M) : gL xs Q 557 [.retAddr 1, .ref 0, .ref 145, .int (nI i)] [.int y] M := by
  have e1 : nI i + 1 = nI (i + 1) := nI_add i 1
  have c1 : (nI (i + 1)).toNatClampNeg = i + 1 := ycl (by omega)
  have r : (zix (nI i + 1) xs.length (gL xs Q 563 [.retAddr 1, .ref 0, .ref 145, .int (nI i)] [.int (xs.getD (nI i + 1).toNatClampNeg 0), .ref 145, .int y] M)) := by
    rw [e1, c1]
    exact (zix_n (by omega) (by omega) hh)
  exact zseg (zcall_m xs 100) 9 [563] r
set_option maxRecDepth 100000 in
theorem lD_8 {y : Int32} {v1 : Value} (hh : zcall xs 100 218 (zFx t, IL) [.ref 145, v1] (zkI (zFx t) fun IL1 y2 => gL xs Q 566 [.retAddr 1, .ref 0, .ref 145, .int (nI i)] [.int y2, .int y] (zFx t, IL1))) : gL xs Q 563 [.retAddr 1, .ref 0, .ref 145, .int (nI i)] [v1, .ref 145, .int y] (zFx t, IL) := zseg (zcall_m xs 100) 3 [566] hh
set_option maxRecDepth 100000 in
theorem lE_8 {y y2 : Int32} (hh : zif2 (decide ((y : Int32) = y2)) (gL xs Q 1819 [.retAddr 1, .ref 0, .ref 145, .int (nI i)] [] M) (Q M (some (.int 0)))) : gL xs Q 566 [.retAddr 1, .ref 0, .ref 145, .int (nI i)] [.int y2, .int y] M := zseg (zcall_m xs 100) 6 [1819] hh
set_option maxRecDepth 100000 in
theorem lA_9 (hl : xs.length ≤ 3072) (hi : i + 6 ≤ xs.length) (hh : gL xs Q 572 [.retAddr 1, .ref 0, .ref 145, .int (nI i)] [.ref 0] M) : gL xs Q 571 [.retAddr 1, .ref 0, .ref 145, .int (nI i)] [] M := by
  exact zseg (zcall_m xs 100) 4 [572] hh
set_option maxRecDepth 100000 in
theorem lB_9 (hh : zcall xs 100 96 (zFx t, IL) [.ref 0] (zkI (zFx t) fun IL1 y => gL xs Q 575 [.retAddr 1, .ref 0, .ref 145, .int (nI i)] [.int y] (zFx t, IL1))) : gL xs Q 572 [.retAddr 1, .ref 0, .ref 145, .int (nI i)] [.ref 0] (zFx t, IL) := zseg (zcall_m xs 100) 3 [575] hh
set_option maxRecDepth 100000 in
theorem lC_9 {y : Int32} (hl : xs.length ≤ 3072) (hi : i + 6 ≤ xs.length) (hh : gL xs Q 576 [.retAddr 1, .ref 0, .ref 145, .int (nI i)] [.ref 145, .int y] M) : gL xs Q 575 [.retAddr 1, .ref 0, .ref 145, .int (nI i)] [.int y] M := by
  exact zseg (zcall_m xs 100) 4 [576] hh
set_option maxRecDepth 100000 in
theorem lD_9 {y : Int32} (hh : zcall xs 100 220 (zFx t, IL) [.ref 145] (zkI (zFx t) fun IL1 y2 => gL xs Q 579 [.retAddr 1, .ref 0, .ref 145, .int (nI i)] [.int y2, .int y] (zFx t, IL1))) : gL xs Q 576 [.retAddr 1, .ref 0, .ref 145, .int (nI i)] [.ref 145, .int y] (zFx t, IL) := zseg (zcall_m xs 100) 3 [579] hh
set_option maxRecDepth 100000 in
theorem lE_9 {y y2 : Int32} (hh : zif2 (decide ((y : Int32) = y2)) (gL xs Q 1819 [.retAddr 1, .ref 0, .ref 145, .int (nI i)] [] M) (Q M (some (.int 0)))) : gL xs Q 579 [.retAddr 1, .ref 0, .ref 145, .int (nI i)] [.int y2, .int y] M := zseg (zcall_m xs 100) 6 [1819] hh
set_option maxRecDepth 100000 in
theorem lA_10 (hl : xs.length ≤ 3072) (hi : i + 6 ≤ xs.length) (hh : gL xs Q 585 [.retAddr 1, .ref 0, .ref 145, .int (nI i)] [.ref 0] M) : gL xs Q 584 [.retAddr 1, .ref 0, .ref 145, .int (nI i)] [] M := by
  exact zseg (zcall_m xs 100) 4 [585] hh
set_option maxRecDepth 100000 in
theorem lB_10 (hh : zcall xs 100 97 (zFx t, IL) [.ref 0] (zkI (zFx t) fun IL1 y => gL xs Q 588 [.retAddr 1, .ref 0, .ref 145, .int (nI i)] [.int y] (zFx t, IL1))) : gL xs Q 585 [.retAddr 1, .ref 0, .ref 145, .int (nI i)] [.ref 0] (zFx t, IL) := zseg (zcall_m xs 100) 3 [588] hh
set_option maxRecDepth 100000 in
theorem lC_10 {y : Int32} (hl : xs.length ≤ 3072) (hi : i + 6 ≤ xs.length) (hh : gL xs Q 589 [.retAddr 1, .ref 0, .ref 145, .int (nI i)] [.ref 145, .int y] M) : gL xs Q 588 [.retAddr 1, .ref 0, .ref 145, .int (nI i)] [.int y] M := by
  exact zseg (zcall_m xs 100) 4 [589] hh
set_option maxRecDepth 100000 in
theorem lD_10 {y : Int32} (hh : zcall xs 100 221 (zFx t, IL) [.ref 145] (zkI (zFx t) fun IL1 y2 => gL xs Q 592 [.retAddr 1, .ref 0, .ref 145, .int (nI i)] [.int y2, .int y] (zFx t, IL1))) : gL xs Q 589 [.retAddr 1, .ref 0, .ref 145, .int (nI i)] [.ref 145, .int y] (zFx t, IL) := zseg (zcall_m xs 100) 3 [592] hh
set_option maxRecDepth 100000 in
theorem lE_10 {y y2 : Int32} (hh : zif2 (decide ((y : Int32) = y2)) (gL xs Q 1819 [.retAddr 1, .ref 0, .ref 145, .int (nI i)] [] M) (Q M (some (.int 0)))) : gL xs Q 592 [.retAddr 1, .ref 0, .ref 145, .int (nI i)] [.int y2, .int y] M := zseg (zcall_m xs 100) 6 [1819] hh
set_option maxRecDepth 100000 in
theorem lA_11 (hl : xs.length ≤ 3072) (hi : i + 6 ≤ xs.length) (hh : gL xs Q 598 [.retAddr 1, .ref 0, .ref 145, .int (nI i)] [.ref 0] M) : gL xs Q 597 [.retAddr 1, .ref 0, .ref 145, .int (nI i)] [] M := by
  exact zseg (zcall_m xs 100) 4 [598] hh
set_option maxRecDepth 100000 in
theorem lB_11 (hh : zcall xs 100 98 (zFx t, IL) [.ref 0] (zkI (zFx t) fun IL1 y => gL xs Q 601 [.retAddr 1, .ref 0, .ref 145, .int (nI i)] [.int y] (zFx t, IL1))) : gL xs Q 598 [.retAddr 1, .ref 0, .ref 145, .int (nI i)] [.ref 0] (zFx t, IL) := zseg (zcall_m xs 100) 3 [601] hh
set_option maxRecDepth 100000 in
theorem lC_11 {y : Int32} (hl : xs.length ≤ 3072) (hi : i + 6 ≤ xs.length) (hh : gL xs Q 602 [.retAddr 1, .ref 0, .ref 145, .int (nI i)] [.ref 145, .int y] M) : gL xs Q 601 [.retAddr 1, .ref 0, .ref 145, .int (nI i)] [.int y] M := by
  exact zseg (zcall_m xs 100) 4 [602] hh
set_option maxRecDepth 100000 in
theorem lD_11 {y : Int32} (hh : zcall xs 100 222 (zFx t, IL) [.ref 145] (zkI (zFx t) fun IL1 y2 => gL xs Q 605 [.retAddr 1, .ref 0, .ref 145, .int (nI i)] [.int y2, .int y] (zFx t, IL1))) : gL xs Q 602 [.retAddr 1, .ref 0, .ref 145, .int (nI i)] [.ref 145, .int y] (zFx t, IL) := zseg (zcall_m xs 100) 3 [605] hh
set_option maxRecDepth 100000 in
theorem lE_11 {y y2 : Int32} (hh : zif2 (decide ((y : Int32) = y2)) (gL xs Q 1819 [.retAddr 1, .ref 0, .ref 145, .int (nI i)] [] M) (Q M (some (.int 0)))) : gL xs Q 605 [.retAddr 1, .ref 0, .ref 145, .int (nI i)] [.int y2, .int y] M := zseg (zcall_m xs 100) 6 [1819] hh
set_option maxRecDepth 100000 in
theorem lA_12 (hl : xs.length ≤ 3072) (hi : i + 6 ≤ xs.length) (hh : gL xs Q 629 [.retAddr 1, .ref 0, .ref 145, .int (nI i)] [.int (ybo (xs.getD (i + 2) 0)), .int (xs.getD (i + 1) 0), .ref 0] M) : gL xs Q 610 [.retAddr 1, .ref 0, .ref 145, .int (nI i)] [] M := by
  have e1 : nI i + 1 = nI (i + 1) := nI_add i 1
  have c1 : (nI (i + 1)).toNatClampNeg = i + 1 := ycl (by omega)
  have e2 : nI i + 2 = nI (i + 2) := nI_add i 2
  have c2 : (nI (i + 2)).toNatClampNeg = i + 2 := ycl (by omega)
  by_cases z : xs.getD (i + 2) 0 = 0
  · rw [ybo_0 z] at hh
    have r : (zix (nI i + 1) xs.length (zix (nI i + 2) xs.length (zif2 (decide ((xs.getD (nI i + 2).toNatClampNeg 0 : Int32) = 0)) (gL xs Q 629 [.retAddr 1, .ref 0, .ref 145, .int (nI i)] [.int 0, .int (xs.getD (nI i + 1).toNatClampNeg 0), .ref 0] M) (gL xs Q 629 [.retAddr 1, .ref 0, .ref 145, .int (nI i)] [.int 1, .int (xs.getD (nI i + 1).toNatClampNeg 0), .ref 0] M)))) := by
      rw [e1, e2, c1, c2]
      exact (zix_n (by omega) (by omega) (zix_n (by omega) (by omega) (zdec (fun _ => hh) (fun q => absurd z q))))
    exact zseg (zcall_m xs 100) 18 [629] r
  · rw [ybo_1 z] at hh
    have r : (zix (nI i + 1) xs.length (zix (nI i + 2) xs.length (zif2 (decide ((xs.getD (nI i + 2).toNatClampNeg 0 : Int32) = 0)) (gL xs Q 629 [.retAddr 1, .ref 0, .ref 145, .int (nI i)] [.int 0, .int (xs.getD (nI i + 1).toNatClampNeg 0), .ref 0] M) (gL xs Q 629 [.retAddr 1, .ref 0, .ref 145, .int (nI i)] [.int 1, .int (xs.getD (nI i + 1).toNatClampNeg 0), .ref 0] M)))) := by
      rw [e1, e2, c1, c2]
      exact (zix_n (by omega) (by omega) (zix_n (by omega) (by omega) (zdec (fun q => absurd q z) (fun _ => hh))))
    exact zseg (zcall_m xs 100) 18 [629] r
set_option maxRecDepth 100000 in
theorem lB_12 {v1 v2 : Value} (hh : zcall xs 100 99 (zFx t, IL) [.ref 0, v1, v2] (zkI (zFx t) fun IL1 y => gL xs Q 632 [.retAddr 1, .ref 0, .ref 145, .int (nI i)] [.int y] (zFx t, IL1))) : gL xs Q 629 [.retAddr 1, .ref 0, .ref 145, .int (nI i)] [v2, v1, .ref 0] (zFx t, IL) := zseg (zcall_m xs 100) 3 [632] hh
set_option maxRecDepth 100000 in
theorem lC_12 {y : Int32} (hl : xs.length ≤ 3072) (hi : i + 6 ≤ xs.length) (hh : gL xs Q 651 [.retAddr 1, .ref 0, .ref 145, .int (nI i)] [.int (ybo (xs.getD (i + 2) 0)), .int (xs.getD (i + 1) 0), .ref 145, .int y] M) : gL xs Q 632 [.retAddr 1, .ref 0, .ref 145, .int (nI i)] [.int y] M := by
  have e1 : nI i + 1 = nI (i + 1) := nI_add i 1
  have c1 : (nI (i + 1)).toNatClampNeg = i + 1 := ycl (by omega)
  have e2 : nI i + 2 = nI (i + 2) := nI_add i 2
  have c2 : (nI (i + 2)).toNatClampNeg = i + 2 := ycl (by omega)
  by_cases z : xs.getD (i + 2) 0 = 0
  · rw [ybo_0 z] at hh
    have r : (zix (nI i + 1) xs.length (zix (nI i + 2) xs.length (zif2 (decide ((xs.getD (nI i + 2).toNatClampNeg 0 : Int32) = 0)) (gL xs Q 651 [.retAddr 1, .ref 0, .ref 145, .int (nI i)] [.int 0, .int (xs.getD (nI i + 1).toNatClampNeg 0), .ref 145, .int y] M) (gL xs Q 651 [.retAddr 1, .ref 0, .ref 145, .int (nI i)] [.int 1, .int (xs.getD (nI i + 1).toNatClampNeg 0), .ref 145, .int y] M)))) := by
      rw [e1, e2, c1, c2]
      exact (zix_n (by omega) (by omega) (zix_n (by omega) (by omega) (zdec (fun _ => hh) (fun q => absurd z q))))
    exact zseg (zcall_m xs 100) 18 [651] r
  · rw [ybo_1 z] at hh
    have r : (zix (nI i + 1) xs.length (zix (nI i + 2) xs.length (zif2 (decide ((xs.getD (nI i + 2).toNatClampNeg 0 : Int32) = 0)) (gL xs Q 651 [.retAddr 1, .ref 0, .ref 145, .int (nI i)] [.int 0, .int (xs.getD (nI i + 1).toNatClampNeg 0), .ref 145, .int y] M) (gL xs Q 651 [.retAddr 1, .ref 0, .ref 145, .int (nI i)] [.int 1, .int (xs.getD (nI i + 1).toNatClampNeg 0), .ref 145, .int y] M)))) := by
      rw [e1, e2, c1, c2]
      exact (zix_n (by omega) (by omega) (zix_n (by omega) (by omega) (zdec (fun q => absurd q z) (fun _ => hh))))
    exact zseg (zcall_m xs 100) 18 [651] r
set_option maxRecDepth 100000 in
theorem lD_12 {y : Int32} {v1 v2 : Value} (hh : zcall xs 100 225 (zFx t, IL) [.ref 145, v1, v2] (zkI (zFx t) fun IL1 y2 => gL xs Q 654 [.retAddr 1, .ref 0, .ref 145, .int (nI i)] [.int y2, .int y] (zFx t, IL1))) : gL xs Q 651 [.retAddr 1, .ref 0, .ref 145, .int (nI i)] [v2, v1, .ref 145, .int y] (zFx t, IL) := zseg (zcall_m xs 100) 3 [654] hh
set_option maxRecDepth 100000 in
theorem lE_12 {y y2 : Int32} (hh : zif2 (decide ((y : Int32) = y2)) (gL xs Q 1819 [.retAddr 1, .ref 0, .ref 145, .int (nI i)] [] M) (Q M (some (.int 0)))) : gL xs Q 654 [.retAddr 1, .ref 0, .ref 145, .int (nI i)] [.int y2, .int y] M := zseg (zcall_m xs 100) 6 [1819] hh
set_option maxRecDepth 100000 in
theorem lA_13 (hl : xs.length ≤ 3072) (hi : i + 6 ≤ xs.length) (hh : gL xs Q 678 [.retAddr 1, .ref 0, .ref 145, .int (nI i)] [.int (ybo (xs.getD (i + 2) 0)), .int (xs.getD (i + 1) 0), .ref 0] M) : gL xs Q 659 [.retAddr 1, .ref 0, .ref 145, .int (nI i)] [] M := by
  have e1 : nI i + 1 = nI (i + 1) := nI_add i 1
  have c1 : (nI (i + 1)).toNatClampNeg = i + 1 := ycl (by omega)
  have e2 : nI i + 2 = nI (i + 2) := nI_add i 2
  have c2 : (nI (i + 2)).toNatClampNeg = i + 2 := ycl (by omega)
  by_cases z : xs.getD (i + 2) 0 = 0
  · rw [ybo_0 z] at hh
    have r : (zix (nI i + 1) xs.length (zix (nI i + 2) xs.length (zif2 (decide ((xs.getD (nI i + 2).toNatClampNeg 0 : Int32) = 0)) (gL xs Q 678 [.retAddr 1, .ref 0, .ref 145, .int (nI i)] [.int 0, .int (xs.getD (nI i + 1).toNatClampNeg 0), .ref 0] M) (gL xs Q 678 [.retAddr 1, .ref 0, .ref 145, .int (nI i)] [.int 1, .int (xs.getD (nI i + 1).toNatClampNeg 0), .ref 0] M)))) := by
      rw [e1, e2, c1, c2]
      exact (zix_n (by omega) (by omega) (zix_n (by omega) (by omega) (zdec (fun _ => hh) (fun q => absurd z q))))
    exact zseg (zcall_m xs 100) 18 [678] r
  · rw [ybo_1 z] at hh
    have r : (zix (nI i + 1) xs.length (zix (nI i + 2) xs.length (zif2 (decide ((xs.getD (nI i + 2).toNatClampNeg 0 : Int32) = 0)) (gL xs Q 678 [.retAddr 1, .ref 0, .ref 145, .int (nI i)] [.int 0, .int (xs.getD (nI i + 1).toNatClampNeg 0), .ref 0] M) (gL xs Q 678 [.retAddr 1, .ref 0, .ref 145, .int (nI i)] [.int 1, .int (xs.getD (nI i + 1).toNatClampNeg 0), .ref 0] M)))) := by
      rw [e1, e2, c1, c2]
      exact (zix_n (by omega) (by omega) (zix_n (by omega) (by omega) (zdec (fun q => absurd q z) (fun _ => hh))))
    exact zseg (zcall_m xs 100) 18 [678] r
set_option maxRecDepth 100000 in
theorem lB_13 {v1 v2 : Value} (hh : zcall xs 100 100 (zFx t, IL) [.ref 0, v1, v2] (zkI (zFx t) fun IL1 y => gL xs Q 681 [.retAddr 1, .ref 0, .ref 145, .int (nI i)] [.int y] (zFx t, IL1))) : gL xs Q 678 [.retAddr 1, .ref 0, .ref 145, .int (nI i)] [v2, v1, .ref 0] (zFx t, IL) := zseg (zcall_m xs 100) 3 [681] hh
set_option maxRecDepth 100000 in
theorem lC_13 {y : Int32} (hl : xs.length ≤ 3072) (hi : i + 6 ≤ xs.length) (hh : gL xs Q 700 [.retAddr 1, .ref 0, .ref 145, .int (nI i)] [.int (ybo (xs.getD (i + 2) 0)), .int (xs.getD (i + 1) 0), .ref 145, .int y] M) : gL xs Q 681 [.retAddr 1, .ref 0, .ref 145, .int (nI i)] [.int y] M := by
  have e1 : nI i + 1 = nI (i + 1) := nI_add i 1
  have c1 : (nI (i + 1)).toNatClampNeg = i + 1 := ycl (by omega)
  have e2 : nI i + 2 = nI (i + 2) := nI_add i 2
  have c2 : (nI (i + 2)).toNatClampNeg = i + 2 := ycl (by omega)
  by_cases z : xs.getD (i + 2) 0 = 0
  · rw [ybo_0 z] at hh
    have r : (zix (nI i + 1) xs.length (zix (nI i + 2) xs.length (zif2 (decide ((xs.getD (nI i + 2).toNatClampNeg 0 : Int32) = 0)) (gL xs Q 700 [.retAddr 1, .ref 0, .ref 145, .int (nI i)] [.int 0, .int (xs.getD (nI i + 1).toNatClampNeg 0), .ref 145, .int y] M) (gL xs Q 700 [.retAddr 1, .ref 0, .ref 145, .int (nI i)] [.int 1, .int (xs.getD (nI i + 1).toNatClampNeg 0), .ref 145, .int y] M)))) := by
      rw [e1, e2, c1, c2]
      exact (zix_n (by omega) (by omega) (zix_n (by omega) (by omega) (zdec (fun _ => hh) (fun q => absurd z q))))
    exact zseg (zcall_m xs 100) 18 [700] r
  · rw [ybo_1 z] at hh
    have r : (zix (nI i + 1) xs.length (zix (nI i + 2) xs.length (zif2 (decide ((xs.getD (nI i + 2).toNatClampNeg 0 : Int32) = 0)) (gL xs Q 700 [.retAddr 1, .ref 0, .ref 145, .int (nI i)] [.int 0, .int (xs.getD (nI i + 1).toNatClampNeg 0), .ref 145, .int y] M) (gL xs Q 700 [.retAddr 1, .ref 0, .ref 145, .int (nI i)] [.int 1, .int (xs.getD (nI i + 1).toNatClampNeg 0), .ref 145, .int y] M)))) := by
      rw [e1, e2, c1, c2]
      exact (zix_n (by omega) (by omega) (zix_n (by omega) (by omega) (zdec (fun q => absurd q z) (fun _ => hh))))
    exact zseg (zcall_m xs 100) 18 [700] r
set_option maxRecDepth 100000 in
theorem lD_13 {y : Int32} {v1 v2 : Value} (hh : zcall xs 100 226 (zFx t, IL) [.ref 145, v1, v2] (zkI (zFx t) fun IL1 y2 => gL xs Q 703 [.retAddr 1, .ref 0, .ref 145, .int (nI i)] [.int y2, .int y] (zFx t, IL1))) : gL xs Q 700 [.retAddr 1, .ref 0, .ref 145, .int (nI i)] [v2, v1, .ref 145, .int y] (zFx t, IL) := zseg (zcall_m xs 100) 3 [703] hh
set_option maxRecDepth 100000 in
theorem lE_13 {y y2 : Int32} (hh : zif2 (decide ((y : Int32) = y2)) (gL xs Q 1819 [.retAddr 1, .ref 0, .ref 145, .int (nI i)] [] M) (Q M (some (.int 0)))) : gL xs Q 703 [.retAddr 1, .ref 0, .ref 145, .int (nI i)] [.int y2, .int y] M := zseg (zcall_m xs 100) 6 [1819] hh
set_option maxRecDepth 100000 in
theorem lA_14 (hl : xs.length ≤ 3072) (hi : i + 6 ≤ xs.length) (hh : gL xs Q 727 [.retAddr 1, .ref 0, .ref 145, .int (nI i)] [.int (ybo (xs.getD (i + 2) 0)), .int (xs.getD (i + 1) 0), .ref 0] M) : gL xs Q 708 [.retAddr 1, .ref 0, .ref 145, .int (nI i)] [] M := by
  have e1 : nI i + 1 = nI (i + 1) := nI_add i 1
  have c1 : (nI (i + 1)).toNatClampNeg = i + 1 := ycl (by omega)
  have e2 : nI i + 2 = nI (i + 2) := nI_add i 2
  have c2 : (nI (i + 2)).toNatClampNeg = i + 2 := ycl (by omega)
  by_cases z : xs.getD (i + 2) 0 = 0
  · rw [ybo_0 z] at hh
    have r : (zix (nI i + 1) xs.length (zix (nI i + 2) xs.length (zif2 (decide ((xs.getD (nI i + 2).toNatClampNeg 0 : Int32) = 0)) (gL xs Q 727 [.retAddr 1, .ref 0, .ref 145, .int (nI i)] [.int 0, .int (xs.getD (nI i + 1).toNatClampNeg 0), .ref 0] M) (gL xs Q 727 [.retAddr 1, .ref 0, .ref 145, .int (nI i)] [.int 1, .int (xs.getD (nI i + 1).toNatClampNeg 0), .ref 0] M)))) := by
      rw [e1, e2, c1, c2]
      exact (zix_n (by omega) (by omega) (zix_n (by omega) (by omega) (zdec (fun _ => hh) (fun q => absurd z q))))
    exact zseg (zcall_m xs 100) 18 [727] r
  · rw [ybo_1 z] at hh
    have r : (zix (nI i + 1) xs.length (zix (nI i + 2) xs.length (zif2 (decide ((xs.getD (nI i + 2).toNatClampNeg 0 : Int32) = 0)) (gL xs Q 727 [.retAddr 1, .ref 0, .ref 145, .int (nI i)] [.int 0, .int (xs.getD (nI i + 1).toNatClampNeg 0), .ref 0] M) (gL xs Q 727 [.retAddr 1, .ref 0, .ref 145, .int (nI i)] [.int 1, .int (xs.getD (nI i + 1).toNatClampNeg 0), .ref 0] M)))) := by
      rw [e1, e2, c1, c2]
      exact (zix_n (by omega) (by omega) (zix_n (by omega) (by omega) (zdec (fun q => absurd q z) (fun _ => hh))))
    exact zseg (zcall_m xs 100) 18 [727] r
set_option maxRecDepth 100000 in
theorem lB_14 {v1 v2 : Value} (hh : zcall xs 100 101 (zFx t, IL) [.ref 0, v1, v2] (zkI (zFx t) fun IL1 y => gL xs Q 730 [.retAddr 1, .ref 0, .ref 145, .int (nI i)] [.int y] (zFx t, IL1))) : gL xs Q 727 [.retAddr 1, .ref 0, .ref 145, .int (nI i)] [v2, v1, .ref 0] (zFx t, IL) := zseg (zcall_m xs 100) 3 [730] hh
set_option maxRecDepth 100000 in
theorem lC_14 {y : Int32} (hl : xs.length ≤ 3072) (hi : i + 6 ≤ xs.length) (hh : gL xs Q 749 [.retAddr 1, .ref 0, .ref 145, .int (nI i)] [.int (ybo (xs.getD (i + 2) 0)), .int (xs.getD (i + 1) 0), .ref 145, .int y] M) : gL xs Q 730 [.retAddr 1, .ref 0, .ref 145, .int (nI i)] [.int y] M := by
  have e1 : nI i + 1 = nI (i + 1) := nI_add i 1
  have c1 : (nI (i + 1)).toNatClampNeg = i + 1 := ycl (by omega)
  have e2 : nI i + 2 = nI (i + 2) := nI_add i 2
  have c2 : (nI (i + 2)).toNatClampNeg = i + 2 := ycl (by omega)
  by_cases z : xs.getD (i + 2) 0 = 0
  · rw [ybo_0 z] at hh
    have r : (zix (nI i + 1) xs.length (zix (nI i + 2) xs.length (zif2 (decide ((xs.getD (nI i + 2).toNatClampNeg 0 : Int32) = 0)) (gL xs Q 749 [.retAddr 1, .ref 0, .ref 145, .int (nI i)] [.int 0, .int (xs.getD (nI i + 1).toNatClampNeg 0), .ref 145, .int y] M) (gL xs Q 749 [.retAddr 1, .ref 0, .ref 145, .int (nI i)] [.int 1, .int (xs.getD (nI i + 1).toNatClampNeg 0), .ref 145, .int y] M)))) := by
      rw [e1, e2, c1, c2]
      exact (zix_n (by omega) (by omega) (zix_n (by omega) (by omega) (zdec (fun _ => hh) (fun q => absurd z q))))
    exact zseg (zcall_m xs 100) 18 [749] r
  · rw [ybo_1 z] at hh
    have r : (zix (nI i + 1) xs.length (zix (nI i + 2) xs.length (zif2 (decide ((xs.getD (nI i + 2).toNatClampNeg 0 : Int32) = 0)) (gL xs Q 749 [.retAddr 1, .ref 0, .ref 145, .int (nI i)] [.int 0, .int (xs.getD (nI i + 1).toNatClampNeg 0), .ref 145, .int y] M) (gL xs Q 749 [.retAddr 1, .ref 0, .ref 145, .int (nI i)] [.int 1, .int (xs.getD (nI i + 1).toNatClampNeg 0), .ref 145, .int y] M)))) := by
      rw [e1, e2, c1, c2]
      exact (zix_n (by omega) (by omega) (zix_n (by omega) (by omega) (zdec (fun q => absurd q z) (fun _ => hh))))
    exact zseg (zcall_m xs 100) 18 [749] r
set_option maxRecDepth 100000 in
theorem lD_14 {y : Int32} {v1 v2 : Value} (hh : zcall xs 100 227 (zFx t, IL) [.ref 145, v1, v2] (zkI (zFx t) fun IL1 y2 => gL xs Q 752 [.retAddr 1, .ref 0, .ref 145, .int (nI i)] [.int y2, .int y] (zFx t, IL1))) : gL xs Q 749 [.retAddr 1, .ref 0, .ref 145, .int (nI i)] [v2, v1, .ref 145, .int y] (zFx t, IL) := zseg (zcall_m xs 100) 3 [752] hh
set_option maxRecDepth 100000 in
theorem lE_14 {y y2 : Int32} (hh : zif2 (decide ((y : Int32) = y2)) (gL xs Q 1819 [.retAddr 1, .ref 0, .ref 145, .int (nI i)] [] M) (Q M (some (.int 0)))) : gL xs Q 752 [.retAddr 1, .ref 0, .ref 145, .int (nI i)] [.int y2, .int y] M := zseg (zcall_m xs 100) 6 [1819] hh
set_option maxRecDepth 100000 in
theorem lA_15 (hl : xs.length ≤ 3072) (hi : i + 6 ≤ xs.length) (hh : gL xs Q 773 [.retAddr 1, .ref 0, .ref 145, .int (nI i)] [.int (xs.getD (i + 3) 0), .int (xs.getD (i + 2) 0), .int (xs.getD (i + 1) 0), .ref 0] M) : gL xs Q 757 [.retAddr 1, .ref 0, .ref 145, .int (nI i)] [] M := by
  have e1 : nI i + 1 = nI (i + 1) := nI_add i 1
  have c1 : (nI (i + 1)).toNatClampNeg = i + 1 := ycl (by omega)
  have e2 : nI i + 2 = nI (i + 2) := nI_add i 2
  have c2 : (nI (i + 2)).toNatClampNeg = i + 2 := ycl (by omega)
  have e3 : nI i + 3 = nI (i + 3) := nI_add i 3
  have c3 : (nI (i + 3)).toNatClampNeg = i + 3 := ycl (by omega)
  have r : (zix (nI i + 1) xs.length (zix (nI i + 2) xs.length (zix (nI i + 3) xs.length (gL xs Q 773 [.retAddr 1, .ref 0, .ref 145, .int (nI i)] [.int (xs.getD (nI i + 3).toNatClampNeg 0), .int (xs.getD (nI i + 2).toNatClampNeg 0), .int (xs.getD (nI i + 1).toNatClampNeg 0), .ref 0] M)))) := by
    rw [e1, e2, e3, c1, c2, c3]
    exact (zix_n (by omega) (by omega) (zix_n (by omega) (by omega) (zix_n (by omega) (by omega) hh)))
  exact zseg (zcall_m xs 100) 19 [773] r
set_option maxRecDepth 100000 in
theorem lB_15 {v1 v2 v3 : Value} (hh : zcall xs 100 102 (zFx t, IL) [.ref 0, v1, v2, v3] (zkI (zFx t) fun IL1 y => gL xs Q 776 [.retAddr 1, .ref 0, .ref 145, .int (nI i)] [.int y] (zFx t, IL1))) : gL xs Q 773 [.retAddr 1, .ref 0, .ref 145, .int (nI i)] [v3, v2, v1, .ref 0] (zFx t, IL) := zseg (zcall_m xs 100) 3 [776] hh
set_option maxRecDepth 100000 in
theorem lC_15 {y : Int32} (hl : xs.length ≤ 3072) (hi : i + 6 ≤ xs.length) (hh : gL xs Q 792 [.retAddr 1, .ref 0, .ref 145, .int (nI i)] [.int (xs.getD (i + 3) 0), .int (xs.getD (i + 2) 0), .int (xs.getD (i + 1) 0), .ref 145, .int y] M) : gL xs Q 776 [.retAddr 1, .ref 0, .ref 145, .int (nI i)] [.int y] M := by
  have e1 : nI i + 1 = nI (i + 1) := nI_add i 1
  have c1 : (nI (i + 1)).toNatClampNeg = i + 1 := ycl (by omega)
  have e2 : nI i + 2 = nI (i + 2) := nI_add i 2
  have c2 : (nI (i + 2)).toNatClampNeg = i + 2 := ycl (by omega)
  have e3 : nI i + 3 = nI (i + 3) := nI_add i 3
  have c3 : (nI (i + 3)).toNatClampNeg = i + 3 := ycl (by omega)
  have r : (zix (nI i + 1) xs.length (zix (nI i + 2) xs.length (zix (nI i + 3) xs.length (gL xs Q 792 [.retAddr 1, .ref 0, .ref 145, .int (nI i)] [.int (xs.getD (nI i + 3).toNatClampNeg 0), .int (xs.getD (nI i + 2).toNatClampNeg 0), .int (xs.getD (nI i + 1).toNatClampNeg 0), .ref 145, .int y] M)))) := by
    rw [e1, e2, e3, c1, c2, c3]
    exact (zix_n (by omega) (by omega) (zix_n (by omega) (by omega) (zix_n (by omega) (by omega) hh)))
  exact zseg (zcall_m xs 100) 19 [792] r
set_option maxRecDepth 100000 in
theorem lD_15 {y : Int32} {v1 v2 v3 : Value} (hh : zcall xs 100 228 (zFx t, IL) [.ref 145, v1, v2, v3] (zkI (zFx t) fun IL1 y2 => gL xs Q 795 [.retAddr 1, .ref 0, .ref 145, .int (nI i)] [.int y2, .int y] (zFx t, IL1))) : gL xs Q 792 [.retAddr 1, .ref 0, .ref 145, .int (nI i)] [v3, v2, v1, .ref 145, .int y] (zFx t, IL) := zseg (zcall_m xs 100) 3 [795] hh
set_option maxRecDepth 100000 in
theorem lE_15 {y y2 : Int32} (hh : zif2 (decide ((y : Int32) = y2)) (gL xs Q 1819 [.retAddr 1, .ref 0, .ref 145, .int (nI i)] [] M) (Q M (some (.int 0)))) : gL xs Q 795 [.retAddr 1, .ref 0, .ref 145, .int (nI i)] [.int y2, .int y] M := zseg (zcall_m xs 100) 6 [1819] hh
set_option maxRecDepth 100000 in
theorem lA_16 (hl : xs.length ≤ 3072) (hi : i + 6 ≤ xs.length) (hh : gL xs Q 814 [.retAddr 1, .ref 0, .ref 145, .int (nI i)] [.int (ybo (xs.getD (i + 1) 0)), .ref 0] M) : gL xs Q 800 [.retAddr 1, .ref 0, .ref 145, .int (nI i)] [] M := by
  have e1 : nI i + 1 = nI (i + 1) := nI_add i 1
  have c1 : (nI (i + 1)).toNatClampNeg = i + 1 := ycl (by omega)
  by_cases z : xs.getD (i + 1) 0 = 0
  · rw [ybo_0 z] at hh
    have r : (zix (nI i + 1) xs.length (zif2 (decide ((xs.getD (nI i + 1).toNatClampNeg 0 : Int32) = 0)) (gL xs Q 814 [.retAddr 1, .ref 0, .ref 145, .int (nI i)] [.int 0, .ref 0] M) (gL xs Q 814 [.retAddr 1, .ref 0, .ref 145, .int (nI i)] [.int 1, .ref 0] M))) := by
      rw [e1, c1]
      exact (zix_n (by omega) (by omega) (zdec (fun _ => hh) (fun q => absurd z q)))
    exact zseg (zcall_m xs 100) 13 [814] r
  · rw [ybo_1 z] at hh
    have r : (zix (nI i + 1) xs.length (zif2 (decide ((xs.getD (nI i + 1).toNatClampNeg 0 : Int32) = 0)) (gL xs Q 814 [.retAddr 1, .ref 0, .ref 145, .int (nI i)] [.int 0, .ref 0] M) (gL xs Q 814 [.retAddr 1, .ref 0, .ref 145, .int (nI i)] [.int 1, .ref 0] M))) := by
      rw [e1, c1]
      exact (zix_n (by omega) (by omega) (zdec (fun q => absurd q z) (fun _ => hh)))
    exact zseg (zcall_m xs 100) 13 [814] r
set_option maxRecDepth 100000 in
theorem lB_16 {v1 : Value} (hh : zcall xs 100 103 (zFx t, IL) [.ref 0, v1] (zkI (zFx t) fun IL1 y => gL xs Q 817 [.retAddr 1, .ref 0, .ref 145, .int (nI i)] [.int y] (zFx t, IL1))) : gL xs Q 814 [.retAddr 1, .ref 0, .ref 145, .int (nI i)] [v1, .ref 0] (zFx t, IL) := zseg (zcall_m xs 100) 3 [817] hh
set_option maxRecDepth 100000 in
theorem lC_16 {y : Int32} (hl : xs.length ≤ 3072) (hi : i + 6 ≤ xs.length) (hh : gL xs Q 831 [.retAddr 1, .ref 0, .ref 145, .int (nI i)] [.int (ybo (xs.getD (i + 1) 0)), .ref 145, .int y] M) : gL xs Q 817 [.retAddr 1, .ref 0, .ref 145, .int (nI i)] [.int y] M := by
  have e1 : nI i + 1 = nI (i + 1) := nI_add i 1
  have c1 : (nI (i + 1)).toNatClampNeg = i + 1 := ycl (by omega)
  by_cases z : xs.getD (i + 1) 0 = 0
  · rw [ybo_0 z] at hh
    have r : (zix (nI i + 1) xs.length (zif2 (decide ((xs.getD (nI i + 1).toNatClampNeg 0 : Int32) = 0)) (gL xs Q 831 [.retAddr 1, .ref 0, .ref 145, .int (nI i)] [.int 0, .ref 145, .int y] M) (gL xs Q 831 [.retAddr 1, .ref 0, .ref 145, .int (nI i)] [.int 1, .ref 145, .int y] M))) := by
      rw [e1, c1]
      exact (zix_n (by omega) (by omega) (zdec (fun _ => hh) (fun q => absurd z q)))
    exact zseg (zcall_m xs 100) 13 [831] r
  · rw [ybo_1 z] at hh
    have r : (zix (nI i + 1) xs.length (zif2 (decide ((xs.getD (nI i + 1).toNatClampNeg 0 : Int32) = 0)) (gL xs Q 831 [.retAddr 1, .ref 0, .ref 145, .int (nI i)] [.int 0, .ref 145, .int y] M) (gL xs Q 831 [.retAddr 1, .ref 0, .ref 145, .int (nI i)] [.int 1, .ref 145, .int y] M))) := by
      rw [e1, c1]
      exact (zix_n (by omega) (by omega) (zdec (fun q => absurd q z) (fun _ => hh)))
    exact zseg (zcall_m xs 100) 13 [831] r
set_option maxRecDepth 100000 in
theorem lD_16 {y : Int32} {v1 : Value} (hh : zcall xs 100 233 (zFx t, IL) [.ref 145, v1] (zkI (zFx t) fun IL1 y2 => gL xs Q 834 [.retAddr 1, .ref 0, .ref 145, .int (nI i)] [.int y2, .int y] (zFx t, IL1))) : gL xs Q 831 [.retAddr 1, .ref 0, .ref 145, .int (nI i)] [v1, .ref 145, .int y] (zFx t, IL) := zseg (zcall_m xs 100) 3 [834] hh
set_option maxRecDepth 100000 in
theorem lE_16 {y y2 : Int32} (hh : zif2 (decide ((y : Int32) = y2)) (gL xs Q 1819 [.retAddr 1, .ref 0, .ref 145, .int (nI i)] [] M) (Q M (some (.int 0)))) : gL xs Q 834 [.retAddr 1, .ref 0, .ref 145, .int (nI i)] [.int y2, .int y] M := zseg (zcall_m xs 100) 6 [1819] hh
set_option maxRecDepth 100000 in
theorem lA_17 (hl : xs.length ≤ 3072) (hi : i + 6 ≤ xs.length) (hh : gL xs Q 845 [.retAddr 1, .ref 0, .ref 145, .int (nI i)] [.int (xs.getD (i + 1) 0), .ref 0] M) : gL xs Q 839 [.retAddr 1, .ref 0, .ref 145, .int (nI i)] [] M := by
  have e1 : nI i + 1 = nI (i + 1) := nI_add i 1
  have c1 : (nI (i + 1)).toNatClampNeg = i + 1 := ycl (by omega)
  have r : (zix (nI i + 1) xs.length (gL xs Q 845 [.retAddr 1, .ref 0, .ref 145, .int (nI i)] [.int (xs.getD (nI i + 1).toNatClampNeg 0), .ref 0] M)) := by
    rw [e1, c1]
    exact (zix_n (by omega) (by omega) hh)
  exact zseg (zcall_m xs 100) 9 [845] r
set_option maxRecDepth 100000 in
theorem lB_17 {v1 : Value} (hh : zcall xs 100 104 (zFx t, IL) [.ref 0, v1] (zkI (zFx t) fun IL1 y => gL xs Q 848 [.retAddr 1, .ref 0, .ref 145, .int (nI i)] [.int y] (zFx t, IL1))) : gL xs Q 845 [.retAddr 1, .ref 0, .ref 145, .int (nI i)] [v1, .ref 0] (zFx t, IL) := zseg (zcall_m xs 100) 3 [848] hh
set_option maxRecDepth 100000 in
theorem lC_17 {y : Int32} (hl : xs.length ≤ 3072) (hi : i + 6 ≤ xs.length) (hh : gL xs Q 854 [.retAddr 1, .ref 0, .ref 145, .int (nI i)] [.int (xs.getD (i + 1) 0), .ref 145, .int y] M) : gL xs Q 848 [.retAddr 1, .ref 0, .ref 145, .int (nI i)] [.int y] M := by
  have e1 : nI i + 1 = nI (i + 1) := nI_add i 1
  have c1 : (nI (i + 1)).toNatClampNeg = i + 1 := ycl (by omega)
  have r : (zix (nI i + 1) xs.length (gL xs Q 854 [.retAddr 1, .ref 0, .ref 145, .int (nI i)] [.int (xs.getD (nI i + 1).toNatClampNeg 0), .ref 145, .int y] M)) := by
    rw [e1, c1]
    exact (zix_n (by omega) (by omega) hh)
  exact zseg (zcall_m xs 100) 9 [854] r
set_option maxRecDepth 100000 in
theorem lD_17 {y : Int32} {v1 : Value} (hh : zcall xs 100 234 (zFx t, IL) [.ref 145, v1] (zkI (zFx t) fun IL1 y2 => gL xs Q 857 [.retAddr 1, .ref 0, .ref 145, .int (nI i)] [.int y2, .int y] (zFx t, IL1))) : gL xs Q 854 [.retAddr 1, .ref 0, .ref 145, .int (nI i)] [v1, .ref 145, .int y] (zFx t, IL) := zseg (zcall_m xs 100) 3 [857] hh
set_option maxRecDepth 100000 in
theorem lE_17 {y y2 : Int32} (hh : zif2 (decide ((y : Int32) = y2)) (gL xs Q 1819 [.retAddr 1, .ref 0, .ref 145, .int (nI i)] [] M) (Q M (some (.int 0)))) : gL xs Q 857 [.retAddr 1, .ref 0, .ref 145, .int (nI i)] [.int y2, .int y] M := zseg (zcall_m xs 100) 6 [1819] hh
set_option maxRecDepth 100000 in
theorem lA_18 (hl : xs.length ≤ 3072) (hi : i + 6 ≤ xs.length) (hh : gL xs Q 876 [.retAddr 1, .ref 0, .ref 145, .int (nI i)] [.int (ybo (xs.getD (i + 1) 0)), .ref 0] M) : gL xs Q 862 [.retAddr 1, .ref 0, .ref 145, .int (nI i)] [] M := by
  have e1 : nI i + 1 = nI (i + 1) := nI_add i 1
  have c1 : (nI (i + 1)).toNatClampNeg = i + 1 := ycl (by omega)
  by_cases z : xs.getD (i + 1) 0 = 0
  · rw [ybo_0 z] at hh
    have r : (zix (nI i + 1) xs.length (zif2 (decide ((xs.getD (nI i + 1).toNatClampNeg 0 : Int32) = 0)) (gL xs Q 876 [.retAddr 1, .ref 0, .ref 145, .int (nI i)] [.int 0, .ref 0] M) (gL xs Q 876 [.retAddr 1, .ref 0, .ref 145, .int (nI i)] [.int 1, .ref 0] M))) := by
      rw [e1, c1]
      exact (zix_n (by omega) (by omega) (zdec (fun _ => hh) (fun q => absurd z q)))
    exact zseg (zcall_m xs 100) 13 [876] r
  · rw [ybo_1 z] at hh
    have r : (zix (nI i + 1) xs.length (zif2 (decide ((xs.getD (nI i + 1).toNatClampNeg 0 : Int32) = 0)) (gL xs Q 876 [.retAddr 1, .ref 0, .ref 145, .int (nI i)] [.int 0, .ref 0] M) (gL xs Q 876 [.retAddr 1, .ref 0, .ref 145, .int (nI i)] [.int 1, .ref 0] M))) := by
      rw [e1, c1]
      exact (zix_n (by omega) (by omega) (zdec (fun q => absurd q z) (fun _ => hh)))
    exact zseg (zcall_m xs 100) 13 [876] r
set_option maxRecDepth 100000 in
theorem lB_18 {v1 : Value} (hh : zcall xs 100 105 (zFx t, IL) [.ref 0, v1] (zkI (zFx t) fun IL1 y => gL xs Q 879 [.retAddr 1, .ref 0, .ref 145, .int (nI i)] [.int y] (zFx t, IL1))) : gL xs Q 876 [.retAddr 1, .ref 0, .ref 145, .int (nI i)] [v1, .ref 0] (zFx t, IL) := zseg (zcall_m xs 100) 3 [879] hh
set_option maxRecDepth 100000 in
theorem lC_18 {y : Int32} (hl : xs.length ≤ 3072) (hi : i + 6 ≤ xs.length) (hh : gL xs Q 893 [.retAddr 1, .ref 0, .ref 145, .int (nI i)] [.int (ybo (xs.getD (i + 1) 0)), .ref 145, .int y] M) : gL xs Q 879 [.retAddr 1, .ref 0, .ref 145, .int (nI i)] [.int y] M := by
  have e1 : nI i + 1 = nI (i + 1) := nI_add i 1
  have c1 : (nI (i + 1)).toNatClampNeg = i + 1 := ycl (by omega)
  by_cases z : xs.getD (i + 1) 0 = 0
  · rw [ybo_0 z] at hh
    have r : (zix (nI i + 1) xs.length (zif2 (decide ((xs.getD (nI i + 1).toNatClampNeg 0 : Int32) = 0)) (gL xs Q 893 [.retAddr 1, .ref 0, .ref 145, .int (nI i)] [.int 0, .ref 145, .int y] M) (gL xs Q 893 [.retAddr 1, .ref 0, .ref 145, .int (nI i)] [.int 1, .ref 145, .int y] M))) := by
      rw [e1, c1]
      exact (zix_n (by omega) (by omega) (zdec (fun _ => hh) (fun q => absurd z q)))
    exact zseg (zcall_m xs 100) 13 [893] r
  · rw [ybo_1 z] at hh
    have r : (zix (nI i + 1) xs.length (zif2 (decide ((xs.getD (nI i + 1).toNatClampNeg 0 : Int32) = 0)) (gL xs Q 893 [.retAddr 1, .ref 0, .ref 145, .int (nI i)] [.int 0, .ref 145, .int y] M) (gL xs Q 893 [.retAddr 1, .ref 0, .ref 145, .int (nI i)] [.int 1, .ref 145, .int y] M))) := by
      rw [e1, c1]
      exact (zix_n (by omega) (by omega) (zdec (fun q => absurd q z) (fun _ => hh)))
    exact zseg (zcall_m xs 100) 13 [893] r
set_option maxRecDepth 100000 in
theorem lD_18 {y : Int32} {v1 : Value} (hh : zcall xs 100 235 (zFx t, IL) [.ref 145, v1] (zkI (zFx t) fun IL1 y2 => gL xs Q 896 [.retAddr 1, .ref 0, .ref 145, .int (nI i)] [.int y2, .int y] (zFx t, IL1))) : gL xs Q 893 [.retAddr 1, .ref 0, .ref 145, .int (nI i)] [v1, .ref 145, .int y] (zFx t, IL) := zseg (zcall_m xs 100) 3 [896] hh
set_option maxRecDepth 100000 in
theorem lE_18 {y y2 : Int32} (hh : zif2 (decide ((y : Int32) = y2)) (gL xs Q 1819 [.retAddr 1, .ref 0, .ref 145, .int (nI i)] [] M) (Q M (some (.int 0)))) : gL xs Q 896 [.retAddr 1, .ref 0, .ref 145, .int (nI i)] [.int y2, .int y] M := zseg (zcall_m xs 100) 6 [1819] hh
set_option maxRecDepth 100000 in
theorem lA_19 (hl : xs.length ≤ 3072) (hi : i + 6 ≤ xs.length) (hh : gL xs Q 907 [.retAddr 1, .ref 0, .ref 145, .int (nI i)] [.int (xs.getD (i + 1) 0), .ref 0] M) : gL xs Q 901 [.retAddr 1, .ref 0, .ref 145, .int (nI i)] [] M := by
  have e1 : nI i + 1 = nI (i + 1) := nI_add i 1
  have c1 : (nI (i + 1)).toNatClampNeg = i + 1 := ycl (by omega)
  have r : (zix (nI i + 1) xs.length (gL xs Q 907 [.retAddr 1, .ref 0, .ref 145, .int (nI i)] [.int (xs.getD (nI i + 1).toNatClampNeg 0), .ref 0] M)) := by
    rw [e1, c1]
    exact (zix_n (by omega) (by omega) hh)
  exact zseg (zcall_m xs 100) 9 [907] r
set_option maxRecDepth 100000 in
theorem lB_19 {v1 : Value} (hh : zcall xs 100 106 (zFx t, IL) [.ref 0, v1] (zkI (zFx t) fun IL1 y => gL xs Q 910 [.retAddr 1, .ref 0, .ref 145, .int (nI i)] [.int y] (zFx t, IL1))) : gL xs Q 907 [.retAddr 1, .ref 0, .ref 145, .int (nI i)] [v1, .ref 0] (zFx t, IL) := zseg (zcall_m xs 100) 3 [910] hh
set_option maxRecDepth 100000 in
theorem lC_19 {y : Int32} (hl : xs.length ≤ 3072) (hi : i + 6 ≤ xs.length) (hh : gL xs Q 916 [.retAddr 1, .ref 0, .ref 145, .int (nI i)] [.int (xs.getD (i + 1) 0), .ref 145, .int y] M) : gL xs Q 910 [.retAddr 1, .ref 0, .ref 145, .int (nI i)] [.int y] M := by
  have e1 : nI i + 1 = nI (i + 1) := nI_add i 1
  have c1 : (nI (i + 1)).toNatClampNeg = i + 1 := ycl (by omega)
  have r : (zix (nI i + 1) xs.length (gL xs Q 916 [.retAddr 1, .ref 0, .ref 145, .int (nI i)] [.int (xs.getD (nI i + 1).toNatClampNeg 0), .ref 145, .int y] M)) := by
    rw [e1, c1]
    exact (zix_n (by omega) (by omega) hh)
  exact zseg (zcall_m xs 100) 9 [916] r
set_option maxRecDepth 100000 in
theorem lD_19 {y : Int32} {v1 : Value} (hh : zcall xs 100 239 (zFx t, IL) [.ref 145, v1] (zkI (zFx t) fun IL1 y2 => gL xs Q 919 [.retAddr 1, .ref 0, .ref 145, .int (nI i)] [.int y2, .int y] (zFx t, IL1))) : gL xs Q 916 [.retAddr 1, .ref 0, .ref 145, .int (nI i)] [v1, .ref 145, .int y] (zFx t, IL) := zseg (zcall_m xs 100) 3 [919] hh
set_option maxRecDepth 100000 in
theorem lE_19 {y y2 : Int32} (hh : zif2 (decide ((y : Int32) = y2)) (gL xs Q 1819 [.retAddr 1, .ref 0, .ref 145, .int (nI i)] [] M) (Q M (some (.int 0)))) : gL xs Q 919 [.retAddr 1, .ref 0, .ref 145, .int (nI i)] [.int y2, .int y] M := zseg (zcall_m xs 100) 6 [1819] hh
set_option maxRecDepth 100000 in
theorem lA_20 (hl : xs.length ≤ 3072) (hi : i + 6 ≤ xs.length) (hh : gL xs Q 935 [.retAddr 1, .ref 0, .ref 145, .int (nI i)] [.int (xs.getD (i + 2) 0), .int (xs.getD (i + 1) 0), .ref 0] M) : gL xs Q 924 [.retAddr 1, .ref 0, .ref 145, .int (nI i)] [] M := by
  have e1 : nI i + 1 = nI (i + 1) := nI_add i 1
  have c1 : (nI (i + 1)).toNatClampNeg = i + 1 := ycl (by omega)
  have e2 : nI i + 2 = nI (i + 2) := nI_add i 2
  have c2 : (nI (i + 2)).toNatClampNeg = i + 2 := ycl (by omega)
  have r : (zix (nI i + 1) xs.length (zix (nI i + 2) xs.length (gL xs Q 935 [.retAddr 1, .ref 0, .ref 145, .int (nI i)] [.int (xs.getD (nI i + 2).toNatClampNeg 0), .int (xs.getD (nI i + 1).toNatClampNeg 0), .ref 0] M))) := by
    rw [e1, e2, c1, c2]
    exact (zix_n (by omega) (by omega) (zix_n (by omega) (by omega) hh))
  exact zseg (zcall_m xs 100) 14 [935] r
set_option maxRecDepth 100000 in
theorem lB_20 {v1 v2 : Value} (hh : zcall xs 100 107 (zFx t, IL) [.ref 0, v1, v2] (zkI (zFx t) fun IL1 y => gL xs Q 938 [.retAddr 1, .ref 0, .ref 145, .int (nI i)] [.int y] (zFx t, IL1))) : gL xs Q 935 [.retAddr 1, .ref 0, .ref 145, .int (nI i)] [v2, v1, .ref 0] (zFx t, IL) := zseg (zcall_m xs 100) 3 [938] hh
set_option maxRecDepth 100000 in
theorem lC_20 {y : Int32} (hl : xs.length ≤ 3072) (hi : i + 6 ≤ xs.length) (hh : gL xs Q 949 [.retAddr 1, .ref 0, .ref 145, .int (nI i)] [.int (xs.getD (i + 2) 0), .int (xs.getD (i + 1) 0), .ref 145, .int y] M) : gL xs Q 938 [.retAddr 1, .ref 0, .ref 145, .int (nI i)] [.int y] M := by
  have e1 : nI i + 1 = nI (i + 1) := nI_add i 1
  have c1 : (nI (i + 1)).toNatClampNeg = i + 1 := ycl (by omega)
  have e2 : nI i + 2 = nI (i + 2) := nI_add i 2
  have c2 : (nI (i + 2)).toNatClampNeg = i + 2 := ycl (by omega)
  have r : (zix (nI i + 1) xs.length (zix (nI i + 2) xs.length (gL xs Q 949 [.retAddr 1, .ref 0, .ref 145, .int (nI i)] [.int (xs.getD (nI i + 2).toNatClampNeg 0), .int (xs.getD (nI i + 1).toNatClampNeg 0), .ref 145, .int y] M))) := by
    rw [e1, e2, c1, c2]
    exact (zix_n (by omega) (by omega) (zix_n (by omega) (by omega) hh))
  exact zseg (zcall_m xs 100) 14 [949] r
set_option maxRecDepth 100000 in
theorem lD_20 {y : Int32} {v1 v2 : Value} (hh : zcall xs 100 241 (zFx t, IL) [.ref 145, v1, v2] (zkI (zFx t) fun IL1 y2 => gL xs Q 952 [.retAddr 1, .ref 0, .ref 145, .int (nI i)] [.int y2, .int y] (zFx t, IL1))) : gL xs Q 949 [.retAddr 1, .ref 0, .ref 145, .int (nI i)] [v2, v1, .ref 145, .int y] (zFx t, IL) := zseg (zcall_m xs 100) 3 [952] hh
set_option maxRecDepth 100000 in
theorem lE_20 {y y2 : Int32} (hh : zif2 (decide ((y : Int32) = y2)) (gL xs Q 1819 [.retAddr 1, .ref 0, .ref 145, .int (nI i)] [] M) (Q M (some (.int 0)))) : gL xs Q 952 [.retAddr 1, .ref 0, .ref 145, .int (nI i)] [.int y2, .int y] M := zseg (zcall_m xs 100) 6 [1819] hh
set_option maxRecDepth 100000 in
theorem lA_21 (hl : xs.length ≤ 3072) (hi : i + 6 ≤ xs.length) (hh : gL xs Q 973 [.retAddr 1, .ref 0, .ref 145, .int (nI i)] [.int (xs.getD (i + 3) 0), .int (xs.getD (i + 2) 0), .int (xs.getD (i + 1) 0), .ref 0] M) : gL xs Q 957 [.retAddr 1, .ref 0, .ref 145, .int (nI i)] [] M := by
  have e1 : nI i + 1 = nI (i + 1) := nI_add i 1
  have c1 : (nI (i + 1)).toNatClampNeg = i + 1 := ycl (by omega)
  have e2 : nI i + 2 = nI (i + 2) := nI_add i 2
  have c2 : (nI (i + 2)).toNatClampNeg = i + 2 := ycl (by omega)
  have e3 : nI i + 3 = nI (i + 3) := nI_add i 3
  have c3 : (nI (i + 3)).toNatClampNeg = i + 3 := ycl (by omega)
  have r : (zix (nI i + 1) xs.length (zix (nI i + 2) xs.length (zix (nI i + 3) xs.length (gL xs Q 973 [.retAddr 1, .ref 0, .ref 145, .int (nI i)] [.int (xs.getD (nI i + 3).toNatClampNeg 0), .int (xs.getD (nI i + 2).toNatClampNeg 0), .int (xs.getD (nI i + 1).toNatClampNeg 0), .ref 0] M)))) := by
    rw [e1, e2, e3, c1, c2, c3]
    exact (zix_n (by omega) (by omega) (zix_n (by omega) (by omega) (zix_n (by omega) (by omega) hh)))
  exact zseg (zcall_m xs 100) 19 [973] r
set_option maxRecDepth 100000 in
theorem lB_21 {v1 v2 v3 : Value} (hh : zcall xs 100 108 (zFx t, IL) [.ref 0, v1, v2, v3] (zkI (zFx t) fun IL1 y => gL xs Q 976 [.retAddr 1, .ref 0, .ref 145, .int (nI i)] [.int y] (zFx t, IL1))) : gL xs Q 973 [.retAddr 1, .ref 0, .ref 145, .int (nI i)] [v3, v2, v1, .ref 0] (zFx t, IL) := zseg (zcall_m xs 100) 3 [976] hh
set_option maxRecDepth 100000 in
theorem lC_21 {y : Int32} (hl : xs.length ≤ 3072) (hi : i + 6 ≤ xs.length) (hh : gL xs Q 992 [.retAddr 1, .ref 0, .ref 145, .int (nI i)] [.int (xs.getD (i + 3) 0), .int (xs.getD (i + 2) 0), .int (xs.getD (i + 1) 0), .ref 145, .int y] M) : gL xs Q 976 [.retAddr 1, .ref 0, .ref 145, .int (nI i)] [.int y] M := by
  have e1 : nI i + 1 = nI (i + 1) := nI_add i 1
  have c1 : (nI (i + 1)).toNatClampNeg = i + 1 := ycl (by omega)
  have e2 : nI i + 2 = nI (i + 2) := nI_add i 2
  have c2 : (nI (i + 2)).toNatClampNeg = i + 2 := ycl (by omega)
  have e3 : nI i + 3 = nI (i + 3) := nI_add i 3
  have c3 : (nI (i + 3)).toNatClampNeg = i + 3 := ycl (by omega)
  have r : (zix (nI i + 1) xs.length (zix (nI i + 2) xs.length (zix (nI i + 3) xs.length (gL xs Q 992 [.retAddr 1, .ref 0, .ref 145, .int (nI i)] [.int (xs.getD (nI i + 3).toNatClampNeg 0), .int (xs.getD (nI i + 2).toNatClampNeg 0), .int (xs.getD (nI i + 1).toNatClampNeg 0), .ref 145, .int y] M)))) := by
    rw [e1, e2, e3, c1, c2, c3]
    exact (zix_n (by omega) (by omega) (zix_n (by omega) (by omega) (zix_n (by omega) (by omega) hh)))
  exact zseg (zcall_m xs 100) 19 [992] r
set_option maxRecDepth 100000 in
theorem lD_21 {y : Int32} {v1 v2 v3 : Value} (hh : zcall xs 100 245 (zFx t, IL) [.ref 145, v1, v2, v3] (zkI (zFx t) fun IL1 y2 => gL xs Q 995 [.retAddr 1, .ref 0, .ref 145, .int (nI i)] [.int y2, .int y] (zFx t, IL1))) : gL xs Q 992 [.retAddr 1, .ref 0, .ref 145, .int (nI i)] [v3, v2, v1, .ref 145, .int y] (zFx t, IL) := zseg (zcall_m xs 100) 3 [995] hh
set_option maxRecDepth 100000 in
theorem lE_21 {y y2 : Int32} (hh : zif2 (decide ((y : Int32) = y2)) (gL xs Q 1819 [.retAddr 1, .ref 0, .ref 145, .int (nI i)] [] M) (Q M (some (.int 0)))) : gL xs Q 995 [.retAddr 1, .ref 0, .ref 145, .int (nI i)] [.int y2, .int y] M := zseg (zcall_m xs 100) 6 [1819] hh
set_option maxRecDepth 100000 in
theorem lA_22 (hl : xs.length ≤ 3072) (hi : i + 6 ≤ xs.length) (hh : gL xs Q 1011 [.retAddr 1, .ref 0, .ref 145, .int (nI i)] [.int (xs.getD (i + 2) 0), .int (xs.getD (i + 1) 0), .ref 0] M) : gL xs Q 1000 [.retAddr 1, .ref 0, .ref 145, .int (nI i)] [] M := by
  have e1 : nI i + 1 = nI (i + 1) := nI_add i 1
  have c1 : (nI (i + 1)).toNatClampNeg = i + 1 := ycl (by omega)
  have e2 : nI i + 2 = nI (i + 2) := nI_add i 2
  have c2 : (nI (i + 2)).toNatClampNeg = i + 2 := ycl (by omega)
  have r : (zix (nI i + 1) xs.length (zix (nI i + 2) xs.length (gL xs Q 1011 [.retAddr 1, .ref 0, .ref 145, .int (nI i)] [.int (xs.getD (nI i + 2).toNatClampNeg 0), .int (xs.getD (nI i + 1).toNatClampNeg 0), .ref 0] M))) := by
    rw [e1, e2, c1, c2]
    exact (zix_n (by omega) (by omega) (zix_n (by omega) (by omega) hh))
  exact zseg (zcall_m xs 100) 14 [1011] r
set_option maxRecDepth 100000 in
theorem lB_22 {v1 v2 : Value} (hh : zcall xs 100 109 (zFx t, IL) [.ref 0, v1, v2] (zkI (zFx t) fun IL1 y => gL xs Q 1014 [.retAddr 1, .ref 0, .ref 145, .int (nI i)] [.int y] (zFx t, IL1))) : gL xs Q 1011 [.retAddr 1, .ref 0, .ref 145, .int (nI i)] [v2, v1, .ref 0] (zFx t, IL) := zseg (zcall_m xs 100) 3 [1014] hh
set_option maxRecDepth 100000 in
theorem lC_22 {y : Int32} (hl : xs.length ≤ 3072) (hi : i + 6 ≤ xs.length) (hh : gL xs Q 1025 [.retAddr 1, .ref 0, .ref 145, .int (nI i)] [.int (xs.getD (i + 2) 0), .int (xs.getD (i + 1) 0), .ref 145, .int y] M) : gL xs Q 1014 [.retAddr 1, .ref 0, .ref 145, .int (nI i)] [.int y] M := by
  have e1 : nI i + 1 = nI (i + 1) := nI_add i 1
  have c1 : (nI (i + 1)).toNatClampNeg = i + 1 := ycl (by omega)
  have e2 : nI i + 2 = nI (i + 2) := nI_add i 2
  have c2 : (nI (i + 2)).toNatClampNeg = i + 2 := ycl (by omega)
  have r : (zix (nI i + 1) xs.length (zix (nI i + 2) xs.length (gL xs Q 1025 [.retAddr 1, .ref 0, .ref 145, .int (nI i)] [.int (xs.getD (nI i + 2).toNatClampNeg 0), .int (xs.getD (nI i + 1).toNatClampNeg 0), .ref 145, .int y] M))) := by
    rw [e1, e2, c1, c2]
    exact (zix_n (by omega) (by omega) (zix_n (by omega) (by omega) hh))
  exact zseg (zcall_m xs 100) 14 [1025] r
set_option maxRecDepth 100000 in
theorem lD_22 {y : Int32} {v1 v2 : Value} (hh : zcall xs 100 247 (zFx t, IL) [.ref 145, v1, v2] (zkI (zFx t) fun IL1 y2 => gL xs Q 1028 [.retAddr 1, .ref 0, .ref 145, .int (nI i)] [.int y2, .int y] (zFx t, IL1))) : gL xs Q 1025 [.retAddr 1, .ref 0, .ref 145, .int (nI i)] [v2, v1, .ref 145, .int y] (zFx t, IL) := zseg (zcall_m xs 100) 3 [1028] hh
set_option maxRecDepth 100000 in
theorem lE_22 {y y2 : Int32} (hh : zif2 (decide ((y : Int32) = y2)) (gL xs Q 1819 [.retAddr 1, .ref 0, .ref 145, .int (nI i)] [] M) (Q M (some (.int 0)))) : gL xs Q 1028 [.retAddr 1, .ref 0, .ref 145, .int (nI i)] [.int y2, .int y] M := zseg (zcall_m xs 100) 6 [1819] hh
set_option maxRecDepth 100000 in
theorem lA_23 (hl : xs.length ≤ 3072) (hi : i + 6 ≤ xs.length) (hh : gL xs Q 1052 [.retAddr 1, .ref 0, .ref 145, .int (nI i)] [.int (ybo (xs.getD (i + 2) 0)), .int (xs.getD (i + 1) 0), .ref 0] M) : gL xs Q 1033 [.retAddr 1, .ref 0, .ref 145, .int (nI i)] [] M := by
  have e1 : nI i + 1 = nI (i + 1) := nI_add i 1
  have c1 : (nI (i + 1)).toNatClampNeg = i + 1 := ycl (by omega)
  have e2 : nI i + 2 = nI (i + 2) := nI_add i 2
  have c2 : (nI (i + 2)).toNatClampNeg = i + 2 := ycl (by omega)
  by_cases z : xs.getD (i + 2) 0 = 0
  · rw [ybo_0 z] at hh
    have r : (zix (nI i + 1) xs.length (zix (nI i + 2) xs.length (zif2 (decide ((xs.getD (nI i + 2).toNatClampNeg 0 : Int32) = 0)) (gL xs Q 1052 [.retAddr 1, .ref 0, .ref 145, .int (nI i)] [.int 0, .int (xs.getD (nI i + 1).toNatClampNeg 0), .ref 0] M) (gL xs Q 1052 [.retAddr 1, .ref 0, .ref 145, .int (nI i)] [.int 1, .int (xs.getD (nI i + 1).toNatClampNeg 0), .ref 0] M)))) := by
      rw [e1, e2, c1, c2]
      exact (zix_n (by omega) (by omega) (zix_n (by omega) (by omega) (zdec (fun _ => hh) (fun q => absurd z q))))
    exact zseg (zcall_m xs 100) 18 [1052] r
  · rw [ybo_1 z] at hh
    have r : (zix (nI i + 1) xs.length (zix (nI i + 2) xs.length (zif2 (decide ((xs.getD (nI i + 2).toNatClampNeg 0 : Int32) = 0)) (gL xs Q 1052 [.retAddr 1, .ref 0, .ref 145, .int (nI i)] [.int 0, .int (xs.getD (nI i + 1).toNatClampNeg 0), .ref 0] M) (gL xs Q 1052 [.retAddr 1, .ref 0, .ref 145, .int (nI i)] [.int 1, .int (xs.getD (nI i + 1).toNatClampNeg 0), .ref 0] M)))) := by
      rw [e1, e2, c1, c2]
      exact (zix_n (by omega) (by omega) (zix_n (by omega) (by omega) (zdec (fun q => absurd q z) (fun _ => hh))))
    exact zseg (zcall_m xs 100) 18 [1052] r
set_option maxRecDepth 100000 in
theorem lB_23 {v1 v2 : Value} (hh : zcall xs 100 110 (zFx t, IL) [.ref 0, v1, v2] (zkI (zFx t) fun IL1 y => gL xs Q 1055 [.retAddr 1, .ref 0, .ref 145, .int (nI i)] [.int y] (zFx t, IL1))) : gL xs Q 1052 [.retAddr 1, .ref 0, .ref 145, .int (nI i)] [v2, v1, .ref 0] (zFx t, IL) := zseg (zcall_m xs 100) 3 [1055] hh
set_option maxRecDepth 100000 in
theorem lC_23 {y : Int32} (hl : xs.length ≤ 3072) (hi : i + 6 ≤ xs.length) (hh : gL xs Q 1074 [.retAddr 1, .ref 0, .ref 145, .int (nI i)] [.int (ybo (xs.getD (i + 2) 0)), .int (xs.getD (i + 1) 0), .ref 145, .int y] M) : gL xs Q 1055 [.retAddr 1, .ref 0, .ref 145, .int (nI i)] [.int y] M := by
  have e1 : nI i + 1 = nI (i + 1) := nI_add i 1
  have c1 : (nI (i + 1)).toNatClampNeg = i + 1 := ycl (by omega)
  have e2 : nI i + 2 = nI (i + 2) := nI_add i 2
  have c2 : (nI (i + 2)).toNatClampNeg = i + 2 := ycl (by omega)
  by_cases z : xs.getD (i + 2) 0 = 0
  · rw [ybo_0 z] at hh
    have r : (zix (nI i + 1) xs.length (zix (nI i + 2) xs.length (zif2 (decide ((xs.getD (nI i + 2).toNatClampNeg 0 : Int32) = 0)) (gL xs Q 1074 [.retAddr 1, .ref 0, .ref 145, .int (nI i)] [.int 0, .int (xs.getD (nI i + 1).toNatClampNeg 0), .ref 145, .int y] M) (gL xs Q 1074 [.retAddr 1, .ref 0, .ref 145, .int (nI i)] [.int 1, .int (xs.getD (nI i + 1).toNatClampNeg 0), .ref 145, .int y] M)))) := by
      rw [e1, e2, c1, c2]
      exact (zix_n (by omega) (by omega) (zix_n (by omega) (by omega) (zdec (fun _ => hh) (fun q => absurd z q))))
    exact zseg (zcall_m xs 100) 18 [1074] r
  · rw [ybo_1 z] at hh
    have r : (zix (nI i + 1) xs.length (zix (nI i + 2) xs.length (zif2 (decide ((xs.getD (nI i + 2).toNatClampNeg 0 : Int32) = 0)) (gL xs Q 1074 [.retAddr 1, .ref 0, .ref 145, .int (nI i)] [.int 0, .int (xs.getD (nI i + 1).toNatClampNeg 0), .ref 145, .int y] M) (gL xs Q 1074 [.retAddr 1, .ref 0, .ref 145, .int (nI i)] [.int 1, .int (xs.getD (nI i + 1).toNatClampNeg 0), .ref 145, .int y] M)))) := by
      rw [e1, e2, c1, c2]
      exact (zix_n (by omega) (by omega) (zix_n (by omega) (by omega) (zdec (fun q => absurd q z) (fun _ => hh))))
    exact zseg (zcall_m xs 100) 18 [1074] r
set_option maxRecDepth 100000 in
theorem lD_23 {y : Int32} {v1 v2 : Value} (hh : zcall xs 100 248 (zFx t, IL) [.ref 145, v1, v2] (zkI (zFx t) fun IL1 y2 => gL xs Q 1077 [.retAddr 1, .ref 0, .ref 145, .int (nI i)] [.int y2, .int y] (zFx t, IL1))) : gL xs Q 1074 [.retAddr 1, .ref 0, .ref 145, .int (nI i)] [v2, v1, .ref 145, .int y] (zFx t, IL) := zseg (zcall_m xs 100) 3 [1077] hh
set_option maxRecDepth 100000 in
theorem lE_23 {y y2 : Int32} (hh : zif2 (decide ((y : Int32) = y2)) (gL xs Q 1819 [.retAddr 1, .ref 0, .ref 145, .int (nI i)] [] M) (Q M (some (.int 0)))) : gL xs Q 1077 [.retAddr 1, .ref 0, .ref 145, .int (nI i)] [.int y2, .int y] M := zseg (zcall_m xs 100) 6 [1819] hh
set_option maxRecDepth 100000 in
theorem lA_24 (hl : xs.length ≤ 3072) (hi : i + 6 ≤ xs.length) (hh : gL xs Q 1101 [.retAddr 1, .ref 0, .ref 145, .int (nI i)] [.int (xs.getD (i + 2) 0), .int (ybo (xs.getD (i + 1) 0)), .ref 0] M) : gL xs Q 1082 [.retAddr 1, .ref 0, .ref 145, .int (nI i)] [] M := by
  have e1 : nI i + 1 = nI (i + 1) := nI_add i 1
  have c1 : (nI (i + 1)).toNatClampNeg = i + 1 := ycl (by omega)
  have e2 : nI i + 2 = nI (i + 2) := nI_add i 2
  have c2 : (nI (i + 2)).toNatClampNeg = i + 2 := ycl (by omega)
  by_cases z : xs.getD (i + 1) 0 = 0
  · rw [ybo_0 z] at hh
    have r : (zix (nI i + 1) xs.length (zif2 (decide ((xs.getD (nI i + 1).toNatClampNeg 0 : Int32) = 0)) (zix (nI i + 2) xs.length (gL xs Q 1101 [.retAddr 1, .ref 0, .ref 145, .int (nI i)] [.int (xs.getD (nI i + 2).toNatClampNeg 0), .int 0, .ref 0] M)) (zix (nI i + 2) xs.length (gL xs Q 1101 [.retAddr 1, .ref 0, .ref 145, .int (nI i)] [.int (xs.getD (nI i + 2).toNatClampNeg 0), .int 1, .ref 0] M)))) := by
      rw [e1, e2, c1, c2]
      exact (zix_n (by omega) (by omega) (zdec (fun _ => (zix_n (by omega) (by omega) hh)) (fun q => absurd z q)))
    exact zseg (zcall_m xs 100) 18 [1101] r
  · rw [ybo_1 z] at hh
    have r : (zix (nI i + 1) xs.length (zif2 (decide ((xs.getD (nI i + 1).toNatClampNeg 0 : Int32) = 0)) (zix (nI i + 2) xs.length (gL xs Q 1101 [.retAddr 1, .ref 0, .ref 145, .int (nI i)] [.int (xs.getD (nI i + 2).toNatClampNeg 0), .int 0, .ref 0] M)) (zix (nI i + 2) xs.length (gL xs Q 1101 [.retAddr 1, .ref 0, .ref 145, .int (nI i)] [.int (xs.getD (nI i + 2).toNatClampNeg 0), .int 1, .ref 0] M)))) := by
      rw [e1, e2, c1, c2]
      exact (zix_n (by omega) (by omega) (zdec (fun q => absurd q z) (fun _ => (zix_n (by omega) (by omega) hh))))
    exact zseg (zcall_m xs 100) 18 [1101] r
set_option maxRecDepth 100000 in
theorem lB_24 {v1 v2 : Value} (hh : zcall xs 100 111 (zFx t, IL) [.ref 0, v1, v2] (zkI (zFx t) fun IL1 y => gL xs Q 1104 [.retAddr 1, .ref 0, .ref 145, .int (nI i)] [.int y] (zFx t, IL1))) : gL xs Q 1101 [.retAddr 1, .ref 0, .ref 145, .int (nI i)] [v2, v1, .ref 0] (zFx t, IL) := zseg (zcall_m xs 100) 3 [1104] hh
set_option maxRecDepth 100000 in
theorem lC_24 {y : Int32} (hl : xs.length ≤ 3072) (hi : i + 6 ≤ xs.length) (hh : gL xs Q 1123 [.retAddr 1, .ref 0, .ref 145, .int (nI i)] [.int (xs.getD (i + 2) 0), .int (ybo (xs.getD (i + 1) 0)), .ref 145, .int y] M) : gL xs Q 1104 [.retAddr 1, .ref 0, .ref 145, .int (nI i)] [.int y] M := by
  have e1 : nI i + 1 = nI (i + 1) := nI_add i 1
  have c1 : (nI (i + 1)).toNatClampNeg = i + 1 := ycl (by omega)
  have e2 : nI i + 2 = nI (i + 2) := nI_add i 2
  have c2 : (nI (i + 2)).toNatClampNeg = i + 2 := ycl (by omega)
  by_cases z : xs.getD (i + 1) 0 = 0
  · rw [ybo_0 z] at hh
    have r : (zix (nI i + 1) xs.length (zif2 (decide ((xs.getD (nI i + 1).toNatClampNeg 0 : Int32) = 0)) (zix (nI i + 2) xs.length (gL xs Q 1123 [.retAddr 1, .ref 0, .ref 145, .int (nI i)] [.int (xs.getD (nI i + 2).toNatClampNeg 0), .int 0, .ref 145, .int y] M)) (zix (nI i + 2) xs.length (gL xs Q 1123 [.retAddr 1, .ref 0, .ref 145, .int (nI i)] [.int (xs.getD (nI i + 2).toNatClampNeg 0), .int 1, .ref 145, .int y] M)))) := by
      rw [e1, e2, c1, c2]
      exact (zix_n (by omega) (by omega) (zdec (fun _ => (zix_n (by omega) (by omega) hh)) (fun q => absurd z q)))
    exact zseg (zcall_m xs 100) 18 [1123] r
  · rw [ybo_1 z] at hh
    have r : (zix (nI i + 1) xs.length (zif2 (decide ((xs.getD (nI i + 1).toNatClampNeg 0 : Int32) = 0)) (zix (nI i + 2) xs.length (gL xs Q 1123 [.retAddr 1, .ref 0, .ref 145, .int (nI i)] [.int (xs.getD (nI i + 2).toNatClampNeg 0), .int 0, .ref 145, .int y] M)) (zix (nI i + 2) xs.length (gL xs Q 1123 [.retAddr 1, .ref 0, .ref 145, .int (nI i)] [.int (xs.getD (nI i + 2).toNatClampNeg 0), .int 1, .ref 145, .int y] M)))) := by
      rw [e1, e2, c1, c2]
      exact (zix_n (by omega) (by omega) (zdec (fun q => absurd q z) (fun _ => (zix_n (by omega) (by omega) hh))))
    exact zseg (zcall_m xs 100) 18 [1123] r
set_option maxRecDepth 100000 in
theorem lD_24 {y : Int32} {v1 v2 : Value} (hh : zcall xs 100 249 (zFx t, IL) [.ref 145, v1, v2] (zkI (zFx t) fun IL1 y2 => gL xs Q 1126 [.retAddr 1, .ref 0, .ref 145, .int (nI i)] [.int y2, .int y] (zFx t, IL1))) : gL xs Q 1123 [.retAddr 1, .ref 0, .ref 145, .int (nI i)] [v2, v1, .ref 145, .int y] (zFx t, IL) := zseg (zcall_m xs 100) 3 [1126] hh
set_option maxRecDepth 100000 in
theorem lE_24 {y y2 : Int32} (hh : zif2 (decide ((y : Int32) = y2)) (gL xs Q 1819 [.retAddr 1, .ref 0, .ref 145, .int (nI i)] [] M) (Q M (some (.int 0)))) : gL xs Q 1126 [.retAddr 1, .ref 0, .ref 145, .int (nI i)] [.int y2, .int y] M := zseg (zcall_m xs 100) 6 [1819] hh
set_option maxRecDepth 100000 in
theorem lA_25 (hl : xs.length ≤ 3072) (hi : i + 6 ≤ xs.length) (hh : gL xs Q 1150 [.retAddr 1, .ref 0, .ref 145, .int (nI i)] [.int (ybo (xs.getD (i + 2) 0)), .int (xs.getD (i + 1) 0), .ref 0] M) : gL xs Q 1131 [.retAddr 1, .ref 0, .ref 145, .int (nI i)] [] M := by
  have e1 : nI i + 1 = nI (i + 1) := nI_add i 1
  have c1 : (nI (i + 1)).toNatClampNeg = i + 1 := ycl (by omega)
  have e2 : nI i + 2 = nI (i + 2) := nI_add i 2
  have c2 : (nI (i + 2)).toNatClampNeg = i + 2 := ycl (by omega)
  by_cases z : xs.getD (i + 2) 0 = 0
  · rw [ybo_0 z] at hh
    have r : (zix (nI i + 1) xs.length (zix (nI i + 2) xs.length (zif2 (decide ((xs.getD (nI i + 2).toNatClampNeg 0 : Int32) = 0)) (gL xs Q 1150 [.retAddr 1, .ref 0, .ref 145, .int (nI i)] [.int 0, .int (xs.getD (nI i + 1).toNatClampNeg 0), .ref 0] M) (gL xs Q 1150 [.retAddr 1, .ref 0, .ref 145, .int (nI i)] [.int 1, .int (xs.getD (nI i + 1).toNatClampNeg 0), .ref 0] M)))) := by
      rw [e1, e2, c1, c2]
      exact (zix_n (by omega) (by omega) (zix_n (by omega) (by omega) (zdec (fun _ => hh) (fun q => absurd z q))))
    exact zseg (zcall_m xs 100) 18 [1150] r
  · rw [ybo_1 z] at hh
    have r : (zix (nI i + 1) xs.length (zix (nI i + 2) xs.length (zif2 (decide ((xs.getD (nI i + 2).toNatClampNeg 0 : Int32) = 0)) (gL xs Q 1150 [.retAddr 1, .ref 0, .ref 145, .int (nI i)] [.int 0, .int (xs.getD (nI i + 1).toNatClampNeg 0), .ref 0] M) (gL xs Q 1150 [.retAddr 1, .ref 0, .ref 145, .int (nI i)] [.int 1, .int (xs.getD (nI i + 1).toNatClampNeg 0), .ref 0] M)))) := by
      rw [e1, e2, c1, c2]
      exact (zix_n (by omega) (by omega) (zix_n (by omega) (by omega) (zdec (fun q => absurd q z) (fun _ => hh))))
    exact zseg (zcall_m xs 100) 18 [1150] r
set_option maxRecDepth 100000 in
theorem lB_25 {v1 v2 : Value} (hh : zcall xs 100 112 (zFx t, IL) [.ref 0, v1, v2] (zkI (zFx t) fun IL1 y => gL xs Q 1153 [.retAddr 1, .ref 0, .ref 145, .int (nI i)] [.int y] (zFx t, IL1))) : gL xs Q 1150 [.retAddr 1, .ref 0, .ref 145, .int (nI i)] [v2, v1, .ref 0] (zFx t, IL) := zseg (zcall_m xs 100) 3 [1153] hh
set_option maxRecDepth 100000 in
theorem lC_25 {y : Int32} (hl : xs.length ≤ 3072) (hi : i + 6 ≤ xs.length) (hh : gL xs Q 1172 [.retAddr 1, .ref 0, .ref 145, .int (nI i)] [.int (ybo (xs.getD (i + 2) 0)), .int (xs.getD (i + 1) 0), .ref 145, .int y] M) : gL xs Q 1153 [.retAddr 1, .ref 0, .ref 145, .int (nI i)] [.int y] M := by
  have e1 : nI i + 1 = nI (i + 1) := nI_add i 1
  have c1 : (nI (i + 1)).toNatClampNeg = i + 1 := ycl (by omega)
  have e2 : nI i + 2 = nI (i + 2) := nI_add i 2
  have c2 : (nI (i + 2)).toNatClampNeg = i + 2 := ycl (by omega)
  by_cases z : xs.getD (i + 2) 0 = 0
  · rw [ybo_0 z] at hh
    have r : (zix (nI i + 1) xs.length (zix (nI i + 2) xs.length (zif2 (decide ((xs.getD (nI i + 2).toNatClampNeg 0 : Int32) = 0)) (gL xs Q 1172 [.retAddr 1, .ref 0, .ref 145, .int (nI i)] [.int 0, .int (xs.getD (nI i + 1).toNatClampNeg 0), .ref 145, .int y] M) (gL xs Q 1172 [.retAddr 1, .ref 0, .ref 145, .int (nI i)] [.int 1, .int (xs.getD (nI i + 1).toNatClampNeg 0), .ref 145, .int y] M)))) := by
      rw [e1, e2, c1, c2]
      exact (zix_n (by omega) (by omega) (zix_n (by omega) (by omega) (zdec (fun _ => hh) (fun q => absurd z q))))
    exact zseg (zcall_m xs 100) 18 [1172] r
  · rw [ybo_1 z] at hh
    have r : (zix (nI i + 1) xs.length (zix (nI i + 2) xs.length (zif2 (decide ((xs.getD (nI i + 2).toNatClampNeg 0 : Int32) = 0)) (gL xs Q 1172 [.retAddr 1, .ref 0, .ref 145, .int (nI i)] [.int 0, .int (xs.getD (nI i + 1).toNatClampNeg 0), .ref 145, .int y] M) (gL xs Q 1172 [.retAddr 1, .ref 0, .ref 145, .int (nI i)] [.int 1, .int (xs.getD (nI i + 1).toNatClampNeg 0), .ref 145, .int y] M)))) := by
      rw [e1, e2, c1, c2]
      exact (zix_n (by omega) (by omega) (zix_n (by omega) (by omega) (zdec (fun q => absurd q z) (fun _ => hh))))
    exact zseg (zcall_m xs 100) 18 [1172] r
set_option maxRecDepth 100000 in
theorem lD_25 {y : Int32} {v1 v2 : Value} (hh : zcall xs 100 251 (zFx t, IL) [.ref 145, v1, v2] (zkI (zFx t) fun IL1 y2 => gL xs Q 1175 [.retAddr 1, .ref 0, .ref 145, .int (nI i)] [.int y2, .int y] (zFx t, IL1))) : gL xs Q 1172 [.retAddr 1, .ref 0, .ref 145, .int (nI i)] [v2, v1, .ref 145, .int y] (zFx t, IL) := zseg (zcall_m xs 100) 3 [1175] hh
set_option maxRecDepth 100000 in
theorem lE_25 {y y2 : Int32} (hh : zif2 (decide ((y : Int32) = y2)) (gL xs Q 1819 [.retAddr 1, .ref 0, .ref 145, .int (nI i)] [] M) (Q M (some (.int 0)))) : gL xs Q 1175 [.retAddr 1, .ref 0, .ref 145, .int (nI i)] [.int y2, .int y] M := zseg (zcall_m xs 100) 6 [1819] hh
end LAWSEG
