/-! counting bits, and how the two sides wind alike -/
def ysr (x k : Int32) : Int32 := (Int32.toUInt32 x >>> (Int32.toUInt32 k &&& Int32.toUInt32 31)).toInt32
def ybc1 (x : Int32) : Int32 := x - (ysr x 1 &&& 1431655765)
def ybc2 (a : Int32) : Int32 := (a &&& 858993459) + (ysr a 2 &&& 858993459)
def ybc3 (b : Int32) : Int32 := (b + ysr b 4) &&& 252645135
def ybc4 (c : Int32) : Int32 := c + ysr c 8
def ybc5 (e : Int32) : Int32 := e + ysr e 16
def ybc (x : Int32) : Int32 := ybc5 (ybc4 (ybc3 (ybc2 (ybc1 x)))) &&& 63
def ymc (x : Int32) : Nat → Nat → Int32 → Int32
  | 0, _, a => a
  | k + 1, i, a => ymc x k (i + 1) (a + ((x >>> (nI i &&& 31)) &&& 1))
section COUNT
variable {xs : List Int32} {d : Nat} {Q : zQ} {t : Bool} {F : zF} {IL : zIL}
theorem c_bitCount {x : Int32} (h : Q (F, IL) (some (.int (ybc x)))) : zcall xs (d + 1) 0 (F, IL) [.int x] Q := sJ6_bitCount_0f7a4 F x IL h
theorem l_members {x : Int32} : ∀ (k i : Nat) (a : Int32), i + k = 7 → Q (zFx t, IL) (some (.int (ymc x k i a))) → gX8_members xs d Q 4 [.int x, .int a, .int (nI i)] [] (zFx t, IL)
  | 0, i, a, hi, h => sX8_members_4 t x a (nI i) IL (zdec (fun z => absurd z (nI_nlt (a := i) (b := 7) (by omega) (by omega))) (fun _ => h))
  | k + 1, i, a, hi, h => sX8_members_4 t x a (nI i) IL (zdec (fun _ => by
      rw [nI_1]
      exact l_members k (i + 1) _ (by omega) h) (fun z => absurd (nI_lt (a := i) (b := 7) (by omega) (by omega)) z))
theorem c_members {x : Int32} (h : Q (zFx t, IL) (some (.int (ymc x 7 0 0)))) : zcall xs (d + 1) 189 (zFx t, IL) [.int x] Q := sX8_members t x IL (l_members 7 0 0 rfl h)
end COUNT
theorem y_bc_mc : ∀ n, n < 128 → ybc (nI n) = ymc (nI n) 7 0 0 := by decide +kernel
theorem y_small {x : Int32} {w : Nat} (h : ∀ i, w ≤ i → bt x i = false) : ∃ n, n < 2 ^ w ∧ x = nI n := by
  refine ⟨x.toBitVec.toNat, Nat.lt_pow_two_of_testBit _ (fun i hi => h i hi), Int32.toBitVec_inj.1 ?_⟩
  show x.toBitVec = BitVec.ofNat 32 x.toBitVec.toNat
  rw [BitVec.ofNat_toNat, BitVec.setWidth_eq]
theorem y_cnt {x : Int32} (h : ∀ i, 7 ≤ i → bt x i = false) : ybc x = ymc x 7 0 0 := by
  obtain ⟨n, hn, rfl⟩ := y_small h
  exact y_bc_mc n hn
theorem y_mc_in : ∀ n, n < 128 → 0 ≤ (ymc (nI n) 7 0 0).toInt ∧ (ymc (nI n) 7 0 0).toInt ≤ 7 := by decide +kernel
theorem y_cnt_in {x : Int32} (h : ∀ i, 7 ≤ i → bt x i = false) : yin (ymc x 7 0 0) 0 7 := by
  obtain ⟨n, hn, rfl⟩ := y_small h
  exact y_mc_in n hn
theorem zmax_i (x y : Int32) : (zmax x y).toInt = max x.toInt y.toInt := by
  unfold zmax
  split
  · have := Int32.lt_iff_toInt_lt.mp ‹_›; omega
  · have : ¬ x.toInt < y.toInt := fun z => absurd (Int32.lt_iff_toInt_lt.mpr z) ‹_›; omega
theorem zmin_i (x y : Int32) : (zmin x y).toInt = min x.toInt y.toInt := by
  unfold zmin
  split
  · have := Int32.lt_iff_toInt_lt.mp ‹_›; omega
  · have : ¬ y.toInt < x.toInt := fun z => absurd (Int32.lt_iff_toInt_lt.mpr z) ‹_›; omega
theorem y9 : (9 : Int32).toInt = 9 := by decide
theorem ym9 : (-9 : Int32).toInt = -9 := by decide
theorem y0 : (0 : Int32).toInt = 0 := by decide
theorem ywi_i (v : Int32) : (ywi v).toInt = max (-9) (min 9 v.toInt) := by
  unfold ywi
  split
  · have := Int32.lt_iff_toInt_lt.mp ‹_›; rw [ym9] at *; omega
  · have h1 : ¬ v.toInt < (-9 : Int32).toInt := fun z => absurd (Int32.lt_iff_toInt_lt.mpr z) ‹_›
    rw [ym9] at h1
    split
    · have := Int32.lt_iff_toInt_lt.mp ‹(9 : Int32) < v›; rw [y9] at *; omega
    · have h2 : ¬ (9 : Int32).toInt < v.toInt := fun z => absurd (Int32.lt_iff_toInt_lt.mpr z) ‹_›
      rw [y9] at h2
      omega
/-- the new notches: the class's sum -/
def ynw (no w : Int32) : Int32 := no + zcwd no w
theorem zcwd_i {no w : Int32} (h : yin no 0 99) : (zcwd no w).toInt = max (max (-9) (-no.toInt)) (min 9 w.toInt) := by
  unfold zcwd
  rw [zmax_i, zmax_i, zmin_i, ym9, i_neg (x := no) (by have := h.1; omega) (by have := h.2; omega), y9]
theorem ynw_i {no w : Int32} (h : yin no 0 99) : (ynw no w).toInt = max 0 (no.toInt + max (-9) (min 9 w.toInt)) := by
  unfold ynw
  have := h.1
  have := h.2
  rw [i_add (by omega) (by omega) (by rw [zcwd_i h]; omega) (by rw [zcwd_i h]; omega), zcwd_i h]
  omega
def ygr (a b : Int32) : Int32 := if b < a then a else b
theorem ygr_i (a b : Int32) : (ygr a b).toInt = max a.toInt b.toInt := by
  unfold ygr
  split
  · have := Int32.lt_iff_toInt_lt.mp ‹_›; omega
  · have : ¬ b.toInt < a.toInt := fun z => absurd (Int32.lt_iff_toInt_lt.mpr z) ‹_›; omega
theorem y_wind {no w : Int32} (h : yin no 0 99) : ygr 0 (no + ywi w) = ynw no w := by
  apply Int32.toInt_inj.mp
  have := h.1
  have := h.2
  rw [ynw_i h, ygr_i, y0, i_add (by omega) (by omega) (by rw [ywi_i]; omega) (by rw [ywi_i]; omega), ywi_i]
