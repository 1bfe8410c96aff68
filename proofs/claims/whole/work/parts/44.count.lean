/-! counting bits, and how the two sides wind alike -/
def ysr (x k : Int32) : Int32 := (Int32.toUInt32 x >>> (Int32.toUInt32 k &&& Int32.toUInt32 31)).toInt32
def ybc1 (x : Int32) : Int32 := x - (ysr x 1 &&& 1431655765)
def ybc2 (a : Int32) : Int32 := (a &&& 858993459) + (ysr a 2 &&& 858993459)
def ybc3 (b : Int32) : Int32 := (b + ysr b 4) &&& 252645135
def ybc4 (c : Int32) : Int32 := c + ysr c 8
def ybc5 (e : Int32) : Int32 := e + ysr e 16
def ybc (x : Int32) : Int32 := ybc5 (ybc4 (ybc3 (ybc2 (ybc1 x)))) &&& 63
def ymc (x : Int32) : Nat → Nat → Int32 → Int32
  | 0, _, a => a
  | k + 1, i, a => ymc x k (i + 1) (a + ((x >>> (nI i &&& 31)) &&& 1))
section COUNT
variable {xs : List Int32} {d : Nat} {Q : zQ} {t : Bool} {F : zF} {IL : zIL}
theorem c_bitCount {x : Int32} (h : Q (F, IL) (some (.int (ybc x)))) : zcall xs (d + 1) 0 (F, IL) [.int x] Q := sJ6_bitCount_0f7a4 F x IL h
theorem l_members {x : Int32} : ∀ (k i : Nat) (a : Int32), i + k = 7 → Q (zFx t, IL) (some (.int (ymc x k i a))) → gX8_members xs d Q 4 [.int x, .int a, .int (nI i)] [] (zFx t, IL)
  | 0, i, a, hi, h => sX8_members_4 t x a (nI i) IL (zdec (fun z => absurd z (nI_nlt (a := i) (b := 7) (by omega) (by omega))) (fun _ => h))
  | k + 1, i, a, hi, h => sX8_members_4 t x a (nI i) IL (zdec (fun _ => by
      rw [nI_1]
      exact l_members k (i + 1) _ (by omega) h) (fun z => absurd (nI_lt (a := i) (b := 7) (by omega) (by omega)) z))
theorem c_members {x : Int32} (h : Q (zFx t, IL) (some (.int (ymc x 7 0 0)))) : zcall xs (d + 1) 189 (zFx t, IL) [.int x] Q := sX8_members t x IL (l_members 7 0 0 rfl h)
end COUNT
theorem y_bc_mc : ∀ n, n < 128 → ybc (nI n) = ymc (nI n) 7 0 0 := by decide +kernel
