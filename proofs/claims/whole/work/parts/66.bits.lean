/-! counting 21 bits -/
def yg1 (a : Nat) : Nat := a - (a / 2 &&& 85)
def yg2 (a : Nat) : Nat := (a &&& 51) + (a / 4 &&& 51)
def yg3 (a : Nat) : Nat := (a + a / 16) &&& 15
def yg (a : Nat) : Nat := yg3 (yg2 (yg1 a))
theorem y_and2 {u m : Nat} (hu : u < 256) (hm : m < 256) (y z : Nat) : (256 * y + u) &&& (256 * z + m) = 256 * (y &&& z) + (u &&& m) := by
  have hum : (u &&& m) < 2 ^ 8 := Nat.lt_of_le_of_lt Nat.and_le_left hu
  apply Nat.eq_of_testBit_eq
  intro j
  rw [Nat.testBit_and, show (256 : Nat) = 2 ^ 8 from rfl, Nat.testBit_two_pow_mul_add y (i := 8) hu, Nat.testBit_two_pow_mul_add z (i := 8) hm, Nat.testBit_two_pow_mul_add (y &&& z) (i := 8) hum]
  split
  · rw [Nat.testBit_and]
  · rw [Nat.testBit_and]
theorem y_g1m : ∀ a, a < 256 → ∀ e, e < 2 → (128 * e + a / 2) &&& 85 = a / 2 &&& 85 := by decide +kernel
theorem y_g2m : ∀ a, a < 256 → ∀ e, e < 4 → (64 * e + a / 4) &&& 51 = a / 4 &&& 51 := by decide +kernel
theorem y_g3m : ∀ a, a ≤ 68 → ∀ e, e ≤ 4 → (16 * e + (a + a / 16)) &&& 15 = yg3 a := by decide +kernel
theorem y_g1s : ∀ a, a < 256 → yg1 a < 256 ∧ yg2 (yg1 a) ≤ 68 ∧ yg2 (yg1 a) % 16 ≤ 4 ∧ yg a ≤ 8 := by decide +kernel
theorem y_c1 : ∀ c, c < 256 → c / 2 &&& 21845 = c / 2 &&& 85 := by decide +kernel
theorem y_c2 : ∀ c, c < 256 → (c &&& 13107) + (c / 4 &&& 13107) = yg2 c := by decide +kernel
theorem y_c3 : ∀ c, c ≤ 68 → (c + c / 16) &&& 3855 = yg3 c := by decide +kernel
theorem y_n1 {a b c : Nat} (ha : a < 256) (hb : b < 256) (hc : c < 256) : (256 * (256 * c + b) + a) - ((256 * (256 * c + b) + a) / 2 &&& 1431655765) = 256 * (256 * yg1 c + yg1 b) + yg1 a := by
  have e1 : (256 * (256 * c + b) + a) / 2 = 256 * ((256 * c + b) / 2) + (128 * ((256 * c + b) % 2) + a / 2) := by omega
  have e2 : (256 * c + b) / 2 = 256 * (c / 2) + (128 * (c % 2) + b / 2) := by omega
  rw [e1, show (1431655765 : Nat) = 256 * (256 * 21845 + 85) + 85 from rfl, y_and2 (by omega) (by omega), y_g1m a ha _ (Nat.mod_lt _ (by decide)), e2, y_and2 (by omega) (by omega), y_g1m b hb _ (Nat.mod_lt _ (by decide)), y_c1 c hc]
  unfold yg1
  have l1 : a / 2 &&& 85 ≤ a / 2 := Nat.and_le_left
  have l2 : b / 2 &&& 85 ≤ b / 2 := Nat.and_le_left
  have l3 : c / 2 &&& 85 ≤ c / 2 := Nat.and_le_left
  omega
theorem y_n2 {a b c : Nat} (ha : a < 256) (hb : b < 256) (hc : c < 256) : ((256 * (256 * c + b) + a) &&& 858993459) + ((256 * (256 * c + b) + a) / 4 &&& 858993459) = 256 * (256 * yg2 c + yg2 b) + yg2 a := by
  have e1 : (256 * (256 * c + b) + a) / 4 = 256 * ((256 * c + b) / 4) + (64 * ((256 * c + b) % 4) + a / 4) := by omega
  have e2 : (256 * c + b) / 4 = 256 * (c / 4) + (64 * (c % 4) + b / 4) := by omega
  rw [e1, show (858993459 : Nat) = 256 * (256 * 13107 + 51) + 51 from rfl, y_and2 ha (by omega), y_and2 hb (by omega), y_and2 (by omega) (by omega), y_g2m a ha _ (Nat.mod_lt _ (by decide)), e2, y_and2 (by omega) (by omega), y_g2m b hb _ (Nat.mod_lt _ (by decide)), ← y_c2 c hc]
  unfold yg2
  omega
theorem y_n3 {a b c : Nat} (ha : a ≤ 68) (hb : b ≤ 68) (hc : c ≤ 68) (hb4 : b % 16 ≤ 4) (hc4 : c % 16 ≤ 4) : ((256 * (256 * c + b) + a) + (256 * (256 * c + b) + a) / 16) &&& 252645135 = 256 * (256 * yg3 c + yg3 b) + yg3 a := by
  have e1 : (256 * (256 * c + b) + a) + (256 * (256 * c + b) + a) / 16 = 256 * (256 * (c + c / 16) + (16 * (c % 16) + (b + b / 16))) + (16 * (b % 16) + (a + a / 16)) := by omega
  rw [e1, show (252645135 : Nat) = 256 * (256 * 3855 + 15) + 15 from rfl, y_and2 (by omega) (by omega), y_and2 (by omega) (by omega), y_g3m a ha _ hb4, y_g3m b hb _ hc4, y_c3 c hc]
theorem y_sr {n : Nat} (hn : n < 2 ^ 31) : ysr (nI n) 1 = nI (n / 2) ∧ ysr (nI n) 2 = nI (n / 4) ∧ ysr (nI n) 4 = nI (n / 16) ∧ ysr (nI n) 8 = nI (n / 256) ∧ ysr (nI n) 16 = nI (n / 65536) := by
  have h32 : n < 2 ^ 32 := by omega
  exact ⟨pk_ushrN h32 1 1 (by decide), pk_ushrN h32 2 2 (by decide), pk_ushrN h32 4 4 (by decide), pk_ushrN h32 8 8 (by decide), pk_ushrN h32 16 16 (by decide)⟩
theorem y_bc3b {a b c : Nat} (ha : a < 256) (hb : b < 256) (hc : c < 256) : ybc (nI (256 * (256 * c + b) + a)) = nI (yg a + yg b + yg c) := by
  obtain ⟨a1, a2, a3, a4⟩ := y_g1s a ha
  obtain ⟨b1, b2, b3, b4⟩ := y_g1s b hb
  obtain ⟨c1, c2, c3, c4⟩ := y_g1s c hc
  have s1 : ybc1 (nI (256 * (256 * c + b) + a)) = nI (256 * (256 * yg1 c + yg1 b) + yg1 a) := by
    unfold ybc1
    rw [(y_sr (by omega)).1, show (1431655765 : Int32) = nI 1431655765 from rfl, nx_and, pk_sub (Nat.le_trans Nat.and_le_left (Nat.div_le_self _ _)), y_n1 ha hb hc]
  have s2 : ybc2 (nI (256 * (256 * yg1 c + yg1 b) + yg1 a)) = nI (256 * (256 * yg2 (yg1 c) + yg2 (yg1 b)) + yg2 (yg1 a)) := by
    unfold ybc2
    rw [(y_sr (by omega)).2.1, show (858993459 : Int32) = nI 858993459 from rfl, nx_and, nx_and, nI_add, y_n2 a1 b1 c1]
  have s3 : ybc3 (nI (256 * (256 * yg2 (yg1 c) + yg2 (yg1 b)) + yg2 (yg1 a))) = nI (256 * (256 * yg c + yg b) + yg a) := by
    unfold ybc3
    rw [(y_sr (by omega)).2.2.1, nI_add, show (252645135 : Int32) = nI 252645135 from rfl, nx_and, y_n3 a2 b2 c2 b3 c3]
    rfl
  have s4 : ybc4 (nI (256 * (256 * yg c + yg b) + yg a)) = nI (65536 * yg c + 256 * (yg b + yg c) + (yg a + yg b)) := by
    unfold ybc4
    rw [(y_sr (by omega)).2.2.2.1, nI_add]
    congr 1
    omega
  have s5 : ybc5 (nI (65536 * yg c + 256 * (yg b + yg c) + (yg a + yg b))) = nI (64 * (1024 * yg c + 4 * (yg b + yg c)) + (yg a + yg b + yg c)) := by
    unfold ybc5
    rw [(y_sr (by omega)).2.2.2.2, nI_add]
    congr 1
    omega
  unfold ybc
  rw [s1, s2, s3, s4, s5, show (63 : Int32) = nI 63 from rfl, nx_and]
  congr 1
  have := Nat.and_two_pow_sub_one_eq_mod (64 * (1024 * yg c + 4 * (yg b + yg c)) + (yg a + yg b + yg c)) 6
  rw [show (63 : Nat) = 2 ^ 6 - 1 from rfl, this]
  omega
theorem y_g8 : ∀ b0 b1 b2 b3 b4 b5 b6 b7 : Bool, yg (b0.toNat + 2 * b1.toNat + 4 * b2.toNat + 8 * b3.toNat + 16 * b4.toNat + 32 * b5.toNat + 64 * b6.toNat + 128 * b7.toNat) = b0.toNat + b1.toNat + b2.toNat + b3.toNat + b4.toNat + b5.toNat + b6.toNat + b7.toNat := by decide +kernel
def ysn (p : Nat → Bool) : Nat → Nat
  | 0 => 0
  | n + 1 => ysn p n + (p n).toNat * 2 ^ n
def ycn (p : Nat → Bool) : Nat → Nat
  | 0 => 0
  | n + 1 => ycn p n + (p n).toNat
theorem ysn_lt (p : Nat → Bool) : ∀ n, ysn p n < 2 ^ n
  | 0 => Nat.zero_lt_one
  | n + 1 => by
    have := ysn_lt p n
    rw [ysn, Nat.pow_succ]
    cases p n
    · show ysn p n + 0 * 2 ^ n < _; omega
    · show ysn p n + 1 * 2 ^ n < _; omega
theorem ysn_tb (p : Nat → Bool) : ∀ n i, (ysn p n).testBit i = (decide (i < n) && p i)
  | 0, i => by rw [ysn, Nat.zero_testBit]; rfl
  | n + 1, i => by
    rw [ysn, Nat.add_comm, Nat.mul_comm, Nat.testBit_two_pow_mul_add _ (ysn_lt p n), ysn_tb p n i]
    by_cases h : i < n
    · rw [if_pos h, decide_eq_true h, decide_eq_true (by omega)]
    · rw [if_neg h]
      by_cases e : i = n
      · subst e
        rw [Nat.sub_self, decide_eq_true (by omega)]
        cases p i <;> rfl
      · obtain ⟨k, hk⟩ : ∃ k, i - n = k + 1 := ⟨i - n - 1, by omega⟩
        rw [hk, decide_eq_false (by omega), Bool.false_and]
        cases p n
        · exact Nat.zero_testBit _
        · exact Nat.testBit_lt_two_pow (by show 1 < 2 ^ (k + 1); rw [Nat.pow_succ]; have := Nat.two_pow_pos k; omega)
theorem yset_n (p : Nat → Bool) {n : Nat} (hn : n ≤ 32) : yset p n = nI (ysn p n) := b_ext (fun i hi => by rw [b_set n hn i hi, bt_nI hi, ysn_tb])
theorem y_bc21 (p : Nat → Bool) : ybc (yset p 21) = nI (ycn p 21) := by
  rw [yset_n p (by decide)]
  have e : ysn p 21 = 256 * (256 * ((p 16).toNat + 2 * (p 17).toNat + 4 * (p 18).toNat + 8 * (p 19).toNat + 16 * (p 20).toNat + 32 * false.toNat + 64 * false.toNat + 128 * false.toNat) + ((p 8).toNat + 2 * (p 9).toNat + 4 * (p 10).toNat + 8 * (p 11).toNat + 16 * (p 12).toNat + 32 * (p 13).toNat + 64 * (p 14).toNat + 128 * (p 15).toNat)) + ((p 0).toNat + 2 * (p 1).toNat + 4 * (p 2).toNat + 8 * (p 3).toNat + 16 * (p 4).toNat + 32 * (p 5).toNat + 64 * (p 6).toNat + 128 * (p 7).toNat) := by
    simp only [ysn, Nat.reducePow, Bool.toNat_false]
    omega
  have t : ∀ i, (p i).toNat ≤ 1 := fun i => Bool.toNat_le _
  have t0 := t 0
  have t1 := t 1
  have t2 := t 2
  have t3 := t 3
  have t4 := t 4
  have t5 := t 5
  have t6 := t 6
  have t7 := t 7
  have t8 := t 8
  have t9 := t 9
  have t10 := t 10
  have t11 := t 11
  have t12 := t 12
  have t13 := t 13
  have t14 := t 14
  have t15 := t 15
  have t16 := t 16
  have t17 := t 17
  have t18 := t 18
  have t19 := t 19
  have t20 := t 20
  have f0 : false.toNat = 0 := rfl
  rw [e, y_bc3b (by omega) (by omega) (by omega), y_g8, y_g8, y_g8]
  congr 1
  simp only [ycn, Bool.toNat_false]
  omega
theorem ycn_le (p : Nat → Bool) : ∀ n, ycn p n ≤ n
  | 0 => Nat.le_refl 0
  | n + 1 => by
    have := ycn_le p n
    have := Bool.toNat_le (p n)
    rw [ycn]
    omega
theorem ycn_0 (p : Nat → Bool) : ∀ n, ycn p n = 0 → ∀ i, i < n → p i = false
  | 0, _, i, hi => absurd hi (Nat.not_lt_zero i)
  | n + 1, h, i, hi => by
    rw [ycn] at h
    by_cases e : i = n
    · subst e
      cases q : p i
      · rfl
      · rw [q] at h
        have : true.toNat = 1 := rfl
        omega
    · exact ycn_0 p n (by omega) i (by omega)
theorem ycn_f {p : Nat → Bool} : ∀ n, (∀ i, i < n → p i = false) → ycn p n = 0
  | 0, _ => rfl
  | n + 1, h => by
    rw [ycn, ycn_f n (fun i hi => h i (by omega)), h n (by omega)]
    rfl
theorem yset_f {p : Nat → Bool} : ∀ n, (∀ i, i < n → p i = false) → yset p n = 0
  | 0, _ => rfl
  | n + 1, h => by
    rw [yset, h n (by omega), if_neg (by decide), yset_f n (fun i hi => h i (by omega))]
theorem yset_0 {p : Nat → Bool} {n : Nat} (hn : n ≤ 32) (h : yset p n = 0) (i : Nat) (hi : i < n) : p i = false := by
  have := b_set (p := p) n hn i (by omega)
  rw [h, b_0, decide_eq_true hi, Bool.true_and] at this
  exact this.symm
