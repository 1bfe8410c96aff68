/-! base: bits (rows of the kit's laws), small numbers, the calls that only reckon -/
def bt (x : Int32) (i : Nat) : Bool := x.toBitVec.getLsbD i
theorem b_ext {x y : Int32} (h : ∀ i, i < 32 → bt x i = bt y i) : x = y := Int32.toBitVec_inj.mp (BitVec.eq_of_getLsbD_eq (fun i hi => h i hi))
theorem b_or (x y : Int32) (i : Nat) : bt (x ||| y) i = (bt x i || bt y i) := by unfold bt; rw [Int32.toBitVec_or, BitVec.getLsbD_or]
theorem b_and (x y : Int32) (i : Nat) : bt (x &&& y) i = (bt x i && bt y i) := by unfold bt; rw [Int32.toBitVec_and, BitVec.getLsbD_and]
theorem b_xor (x y : Int32) (i : Nat) : bt (x ^^^ y) i = (bt x i ^^ bt y i) := by unfold bt; rw [Int32.toBitVec_xor, BitVec.getLsbD_xor]
theorem b_big {x : Int32} {i : Nat} (h : 32 ≤ i) : bt x i = false := BitVec.getLsbD_of_ge _ _ h
theorem b_m1 : ∀ i, i < 32 → bt (-1) i = true := by decide +kernel
theorem b_0 (i : Nat) : bt 0 i = false := BitVec.getLsbD_zero
theorem b_1 : ∀ i, i < 32 → bt 1 i = decide (i = 0) := by decide +kernel
theorem s_l : ∀ n, n < 32 → ((nI n &&& 31).toBitVec.smod 32).toNat = n := by decide +kernel
theorem b_shl (n : Nat) (hn : n < 32) (x : Int32) {i : Nat} (hi : i < 32) : bt (x <<< (nI n &&& 31)) i = (decide (n ≤ i) && bt x (i - n)) := by
  unfold bt
  rw [Int32.toBitVec_shiftLeft]
  show (x.toBitVec <<< ((nI n &&& 31).toBitVec.smod 32).toNat).getLsbD i = _
  rw [s_l n hn, BitVec.getLsbD_shiftLeft]
  rcases Nat.lt_or_ge i n with h | h
  · simp [h, Nat.not_le.mpr h]
  · simp [hi, h, Nat.not_lt.mpr h]
theorem b_sshr (n : Nat) (hn : n < 32) (x : Int32) {i : Nat} (hi : i < 32) : bt (x >>> (nI n &&& 31)) i = if n + i < 32 then bt x (n + i) else bt x 31 := by
  unfold bt
  rw [Int32.toBitVec_shiftRight]
  show (x.toBitVec.sshiftRight ((nI n &&& 31).toBitVec.smod 32).toNat).getLsbD i = _
  rw [s_l n hn, BitVec.getLsbD_sshiftRight, BitVec.msb_eq_getLsbD_last]
  simp [hi]
theorem nx_and (a b : Nat) : nI a &&& nI b = nI (a &&& b) := by
  apply Int32.toBitVec_inj.1
  show BitVec.ofNat 32 a &&& BitVec.ofNat 32 b = BitVec.ofNat 32 (a &&& b)
  apply BitVec.eq_of_getLsbD_eq
  intro i hi
  simp [hi]
/-- one bit by a shift: it is 1 or 0 -/
theorem zb_and1 (x : Int32) (i : Nat) (hi : i < 32) : (x >>> (nI i &&& 31)) &&& 1 = if bt x i then 1 else 0 := by
  apply b_ext
  intro j hj
  rw [b_and, b_1 j hj, b_sshr i hi x hj]
  by_cases h0 : j = 0
  · subst h0
    rw [if_pos (by omega), Nat.add_zero]
    cases hb : bt x i
    · rw [if_neg (by decide), b_0]; rfl
    · rw [if_pos rfl, b_1 0 hj]; rfl
  · rw [decide_eq_false h0, Bool.and_false]
    cases hb : bt x i
    · rw [if_neg (by decide), b_0]
    · rw [if_pos rfl, b_1 j hj, decide_eq_false h0]
theorem zb_0 (x : Int32) (i : Nat) (hi : i < 32) : ((x >>> (nI i &&& 31)) &&& 1 = 0) ↔ bt x i = false := by
  rw [zb_and1 x i hi]
  cases hb : bt x i
  · simp
  · simp
theorem zb_1 (x : Int32) (i : Nat) (hi : i < 32) : ((x >>> (nI i &&& 31)) &&& 1 = 1) ↔ bt x i = true := by
  rw [zb_and1 x i hi]
  cases hb : bt x i
  · simp
  · simp
/-- numbers that don't wrap -/
theorem i_add {x y : Int32} (h1 : -1000000000 ≤ x.toInt) (h2 : x.toInt ≤ 1000000000) (h3 : -1000000000 ≤ y.toInt) (h4 : y.toInt ≤ 1000000000) : (x + y).toInt = x.toInt + y.toInt := by
  rw [Int32.toInt_add]
  exact Int.bmod_eq_of_le (by omega) (by omega)
theorem i_sub {x y : Int32} (h1 : -1000000000 ≤ x.toInt) (h2 : x.toInt ≤ 1000000000) (h3 : -1000000000 ≤ y.toInt) (h4 : y.toInt ≤ 1000000000) : (x - y).toInt = x.toInt - y.toInt := by
  rw [Int32.toInt_sub]
  exact Int.bmod_eq_of_le (by omega) (by omega)
theorem i_neg {x : Int32} (h1 : -1000000000 ≤ x.toInt) (h2 : x.toInt ≤ 1000000000) : (-x).toInt = -x.toInt := by
  rw [Int32.toInt_neg]
  exact Int.bmod_eq_of_le (by omega) (by omega)
theorem zif2_ite {p : Prop} [Decidable p] {A B : Prop} : zif2 (decide p) A B = if p then A else B := by
  by_cases h : p
  · rw [decide_eq_true h, if_pos h]; rfl
  · rw [decide_eq_false h, if_neg h]; rfl
section BASE
variable {xs : List Int32} {d : Nat} {Q : zQ} {t : Bool} {F : zF} {IL : zIL}
def zmax (x y : Int32) : Int32 := if x < y then y else x
def zmin (x y : Int32) : Int32 := if y < x then y else x
theorem c_max {x y : Int32} (h : Q (F, IL) (some (.int (zmax x y)))) : zcall xs (d + 1) 3 (F, IL) [.int x, .int y] Q := by
  refine sJ9_max_7cf53 F x y IL (zdec (fun g => ?_) (fun g => ?_))
  · unfold zmax at h; rw [if_pos g] at h; exact h
  · unfold zmax at h; rw [if_neg g] at h; exact h
theorem c_min {x y : Int32} (h : Q (F, IL) (some (.int (zmin x y)))) : zcall xs (d + 1) 4 (F, IL) [.int x, .int y] Q := by
  refine sJ9_min_7cf53 F x y IL (zdec (fun g => ?_) (fun g => ?_))
  · unfold zmin at h; rw [if_pos g] at h; exact h
  · unfold zmin at h; rw [if_neg g] at h; exact h
/-- has(set, i) -/
theorem c_has {x : Int32} {i : Nat} (hi : i < 32) (h0 : bt x i = false → Q (zFx t, IL) (some (.int 0))) (h1 : bt x i = true → Q (zFx t, IL) (some (.int 1))) : zcall xs (d + 1) 151 (zFx t, IL) [.int x, .int (nI i)] Q :=
  sX7_has t x (nI i) IL (zdec (fun g => h0 ((zb_0 x i hi).mp g)) (fun g => h1 (by
    cases hb : bt x i
    · exact absurd ((zb_0 x i hi).mpr hb) g
    · rfl)))
/-- the votes of a set, from member i on -/
def zvs (vo : Nat → Int32) (set : Int32) : Nat → Nat → Int32 → Int32
  | 0, _, s => s
  | k + 1, i, s => zvs vo set k (i + 1) (if bt set i then s + vo i else s)
theorem l_votesOf {u : Bool} {set : Int32} {n : Nat} {vo : Nat → Int32} (hn : IL.1 (zH u) 0 = nI n) (h7 : n ≤ 7) (hv : ∀ j, j < n → IL.1 (zH u + 2) j = vo j) : ∀ (k i : Nat) (s : Int32), i + k = n → Q (zFx t, IL) (some (.int (zvs vo set k i s))) → gX4_votesOf xs (d + 1) Q 4 [.ref (zH u), .int set, .int s, .int (nI i)] [] (zFx t, IL)
  | 0, i, s, hi, hQ => sX4_votesOf_4 t u set s (nI i) IL (zdec (fun h => absurd h (by rw [hn]; exact nI_nlt (by omega) (by omega))) (fun _ => hQ))
  | k + 1, i, s, hi, hQ => by
    refine sX4_votesOf_4 t u set s (nI i) IL (zdec (fun _ => c_has (by omega) (fun hb => ⟨rfl, ?_⟩) (fun hb => ⟨rfl, ?_⟩)) (fun h => absurd (by rw [hn]; exact nI_lt (by omega) (by omega)) h))
    · unfold zvs at hQ
      rw [hb] at hQ
      show gX4_votesOf xs (d + 1) Q 4 [.ref (zH u), .int set, .int s, .int (nI i + 1)] [] (zFx t, IL)
      rw [nI_1]
      exact l_votesOf hn h7 hv k (i + 1) s (by omega) hQ
    · unfold zvs at hQ
      rw [hb] at hQ
      refine zix_i (vp_in_nI (by omega) (by omega)) ?_
      rw [nI_1, nI_clamp (by omega), hv i (by omega)]
      exact l_votesOf hn h7 hv k (i + 1) _ (by omega) hQ
theorem c_votesOf {u : Bool} {set : Int32} {n : Nat} {vo : Nat → Int32} (hn : IL.1 (zH u) 0 = nI n) (h7 : n ≤ 7) (hv : ∀ j, j < n → IL.1 (zH u + 2) j = vo j) (hQ : Q (zFx t, IL) (some (.int (zvs vo set n 0 0)))) : zcall xs (d + 2) 46 (zFx t, IL) [.ref (zH u), .int set] Q := sX4_votesOf t u set IL (l_votesOf hn h7 hv n 0 0 (by omega) hQ)
end BASE
