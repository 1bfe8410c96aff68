/-! votes of sets: tips, tilts, league, leagues, vetoes, strength -/
theorem y_pow : ∀ n, n ≤ 7 → (1 : Int32) <<< (nI n &&& 31) = nI (2 ^ n) := by decide +kernel
theorem y_pw7 {n : Nat} (h : n ≤ 7) : 2 ^ n ≤ 128 := Nat.pow_le_pow_right (n := 2) (by decide) h
theorem bt_nI {i j : Nat} (hj : j < 32) : bt (nI i) j = i.testBit j := by
  unfold bt
  show (BitVec.ofNat 32 i).getLsbD j = _
  rw [BitVec.getLsbD_ofNat, decide_eq_true hj, Bool.true_and]
theorem bt_lt {i n j : Nat} (h : i < 2 ^ n) (hj : n ≤ j) : bt (nI i) j = false := by
  rcases Nat.lt_or_ge j 32 with q | q
  · rw [bt_nI q]
    exact Nat.testBit_lt_two_pow (Nat.lt_of_lt_of_le h (Nat.pow_le_pow_right (n := 2) (by decide) hj))
  · exact b_big q
def ypc (i : Nat) : Nat := i % 2 + i / 2 % 2 + i / 4 % 2 + i / 8 % 2 + i / 16 % 2 + i / 32 % 2 + i / 64 % 2
theorem y_pcn : ∀ i, i < 128 → ymc (nI i) 7 0 0 = nI (ypc i) ∧ ypc i ≤ 7 := by decide +kernel
theorem y_pcb {i : Nat} (h : i < 128) : ybc (nI i) = nI (ypc i) := by rw [y_bc_mc i h, (y_pcn i h).1]
theorem y_pcm : ∀ n, n ≤ 7 → ∀ m, m < n → ∀ i, i < 2 ^ n → i.testBit m = false → ypc i + 1 ≤ n := by decide +kernel
def yfi : Nat → Int32
  | 0 => 1
  | k + 1 => yfi k * nI (k + 1)
theorem y_fac : ∀ k, k ≤ 7 → zfacts.getD k 0 = yfi k := by decide +kernel
theorem zvs_add (vo : Nat → Int32) (set v : Int32) : ∀ (k i : Nat) (s : Int32), zvs vo set k i (s + v) = zvs vo set k i s + v
  | 0, _, _ => rfl
  | k + 1, i, s => by
    unfold zvs
    split
    · rw [show s + v + vo i = s + vo i + v by rw [Int32.add_assoc, Int32.add_comm v, ← Int32.add_assoc], zvs_add vo set v k (i + 1)]
    · exact zvs_add vo set v k (i + 1) s
theorem zvs_or (vo : Nat → Int32) (set : Int32) (m : Nat) (hm : bt set m = false) : ∀ (k i : Nat) (s : Int32), i + k ≤ 7 → m < 7 → zvs vo (set ||| (1 <<< (nI m &&& 31))) k i s = if i ≤ m ∧ m < i + k then zvs vo set k i s + vo m else zvs vo set k i s
  | 0, i, s, h, h7 => by rw [if_neg (by omega)]; rfl
  | k + 1, i, s, h, h7 => by
    unfold zvs
    have e : bt (set ||| (1 <<< (nI m &&& 31))) i = (bt set i || decide (i = m)) := by rw [b_or, b_one (by omega) (by omega)]
    rw [e]
    by_cases q : i = m
    · subst q
      have e2 : bt (set ||| (1 <<< (nI i &&& 31))) i = true := by rw [e, decide_eq_true rfl, Bool.or_true]
      rw [if_pos (c := i ≤ i ∧ i < i + (k + 1)) (by omega), zvs_or vo set i hm k (i + 1) _ (by omega) h7, if_neg (c := i + 1 ≤ i ∧ _) (by omega), hm, decide_eq_true rfl, Bool.false_or, if_pos rfl, if_neg (by decide), zvs_add]
    · rw [decide_eq_false q, Bool.or_false, zvs_or vo set m hm k (i + 1) _ (by omega) h7]
      by_cases g : i ≤ m ∧ m < i + (k + 1)
      · rw [if_pos g, if_pos (by omega)]
      · rw [if_neg g, if_neg (by omega)]
/-- a number that is one of the first n -/
theorem y_nat {x : Int32} {n : Nat} (h0 : ¬ x < 0) (h : x < nI n) (hn : n ≤ 4000) : ∃ m, m < n ∧ x = nI m := by
  have hx : 0 ≤ x.toInt := by
    have := Int32.not_lt.mp h0
    rw [Int32.le_iff_toInt_le] at this
    exact this
  have hl := Int32.lt_iff_toInt_lt.mp h
  have hn' : (nI n).toInt = n := nI_toInt (by omega)
  rw [hn'] at hl
  refine ⟨x.toInt.toNat, by omega, ?_⟩
  apply Int32.toInt_inj.mp
  rw [nI_toInt (by omega)]
  omega
def yisM (n : Nat) (x : Int32) : Prop := ¬ x < 0 ∧ x < nI n
section VOTES
variable {xs : List Int32} {d : Nat} {Q : zQ} {t u : Bool} {IL : zIL} {H : yH}
theorem c_isMember {x : Int32} (hH : yOK H) (hC : yCH t H IL) (h0 : ¬ yisM H.n x → Q (zFx t, IL) (some (.int 0))) (h1 : ∀ m, m < H.n → x = nI m → yisM H.n x → Q (zFx t, IL) (some (.int 1))) : zcall xs (d + 1) 138 (zFx t, IL) [.ref 0, .int x] Q := by
  have n7 := hH.n7
  refine sX7_isMember t x IL (zdec (fun z => h0 (fun q => q.1 z)) (fun z => ?_))
  rw [hC.mem]
  refine zdec (fun w => ?_) (fun w => h0 (fun q => w q.2))
  obtain ⟨m, hm, e⟩ := y_nat z w (by omega)
  exact h1 m hm e ⟨z, w⟩
theorem c_isClause {x : Int32} (hH : yOK H) (hC : yCH t H IL) (h0 : ¬ yisM H.k x → Q (zFx t, IL) (some (.int 0))) (h1 : ∀ m, m < H.k → x = nI m → yisM H.k x → Q (zFx t, IL) (some (.int 1))) : zcall xs (d + 1) 141 (zFx t, IL) [.ref 0, .int x] Q := by
  have n7 := hH.k6
  refine sX7_isClause t x IL (zdec (fun z => h0 (fun q => q.1 z)) (fun z => ?_))
  rw [hC.cla]
  refine zdec (fun w => ?_) (fun w => h0 (fun q => w q.2))
  obtain ⟨m, hm, e⟩ := y_nat z w (by omega)
  exact h1 m hm e ⟨z, w⟩
theorem c_isIn {x a b : Int32} (h0 : ¬ (¬ x < a ∧ ¬ b < x) → Q (zFx t, IL) (some (.int 0))) (h1 : ¬ x < a → ¬ b < x → Q (zFx t, IL) (some (.int 1))) : zcall xs (d + 1) 197 (zFx t, IL) [.int x, .int a, .int b] Q :=
  sX8_isIn t x a b IL (zdec (fun z => h0 (fun q => q.1 z)) (fun z => zdec (fun w => h0 (fun q => q.2 w)) (fun w => h1 z w)))
theorem y_pred {x : Int32} {n : Nat} (hn : n ≤ 4000) (h0 : ¬ x < 0) : (¬ nI n - 1 < x) ↔ x < nI n := by
  have hx : 0 ≤ x.toInt := by
    have := Int32.not_lt.mp h0
    rw [Int32.le_iff_toInt_le] at this
    exact this
  have hn' : (nI n).toInt = n := nI_toInt (by omega)
  have h1 : (1 : Int32).toInt = 1 := by decide
  have e : (nI n - 1).toInt = n - 1 := by rw [i_sub (by omega) (by omega) (by omega) (by omega), hn', h1]
  rw [Int32.lt_iff_toInt_lt, Int32.lt_iff_toInt_lt, e, hn']
  omega
theorem c_misMember {x : Int32} (hH : yOK H) (hM : yMH H IL) (h0 : ¬ yisM H.n x → Q (zFx t, IL) (some (.int 0))) (h1 : ∀ m, m < H.n → x = nI m → yisM H.n x → Q (zFx t, IL) (some (.int 1))) : zcall xs (d + 2) 198 (zFx t, IL) [.ref 145, .int x] Q := by
  have n7 := hH.n7
  refine sX8_isMember t x IL ?_
  rw [hM.mem]
  refine c_isIn (fun z => (kI (h0 (fun q => z ⟨q.1, (y_pred (by omega) q.1).mpr q.2⟩)))) (fun z w => (kI ?_))
  have w' := (y_pred (by omega) z).mp w
  obtain ⟨m, hm, e⟩ := y_nat z w' (by omega)
  exact h1 m hm e ⟨z, w'⟩
theorem c_misClause {x : Int32} (hH : yOK H) (hM : yMH H IL) (h0 : ¬ yisM H.k x → Q (zFx t, IL) (some (.int 0))) (h1 : ∀ m, m < H.k → x = nI m → yisM H.k x → Q (zFx t, IL) (some (.int 1))) : zcall xs (d + 2) 199 (zFx t, IL) [.ref 145, .int x] Q := by
  have n7 := hH.k6
  refine sX8_isClause t x IL ?_
  rw [hM.cla]
  refine c_isIn (fun z => (kI (h0 (fun q => z ⟨q.1, (y_pred (by omega) q.1).mpr q.2⟩)))) (fun z w => (kI ?_))
  have w' := (y_pred (by omega) z).mp w
  obtain ⟨m, hm, e⟩ := y_nat z w' (by omega)
  exact h1 m hm e ⟨z, w'⟩
/-- votes of a set -/
def yvt (H : yH) (set : Int32) : Int32 := zvs H.vo set H.n 0 0
def yen (H : yH) (set : Int32) : Bool := !decide (yvt H set < H.quota)
def yte (H : yH) (m : Nat) (set : Int32) : Bool := !bt set m && (!yen H set && !decide (yvt H set + H.vo m < H.quota))
theorem c_vt {set : Int32} (hH : yOK H) (hC : yCH u H IL) (hQ : Q (zFx t, IL) (some (.int (yvt H set)))) : zcall xs (d + 2) 46 (zFx t, IL) [.ref (zH u), .int set] Q := c_votesOf hC.mem hH.n7 hC.vo hQ
theorem c_tipsOver {set : Int32} {m : Nat} (hH : yOK H) (hC : yCH u H IL) (hm : m < H.n) (hQ : Q (zFx t, IL) (some (.int (if yte H m set then 1 else 0)))) : zcall xs (d + 3) 48 (zFx t, IL) [.ref (zH u), .int set, .int (nI m)] Q := by
  have n7 := hH.n7
  refine sX4_tipsOver t u _ _ IL (c_vt hH hC (kI (c_has (by omega) (fun hb => kI (z0 ?_)) (fun hb => kI (z1 ?_)))))
  · show zif2 _ _ _
    unfold yte yen at hQ
    rw [hb] at hQ
    rw [hC.quota]
    refine zdec (fun z => ?_) (fun z => ?_)
    · rw [decide_eq_true z] at hQ
      refine zix_n (by omega) (by omega) ?_
      rw [ycl (by omega), hC.vo m hm]
      refine zdec (fun w => ?_) (fun w => ?_)
      · rw [decide_eq_true w] at hQ; exact hQ
      · rw [decide_eq_false w] at hQ; exact hQ
    · rw [decide_eq_false z] at hQ; exact hQ
  · unfold yte at hQ
    rw [hb] at hQ
    exact hQ
theorem c_isEnough {set : Int32} (hH : yOK H) (hM : yMH H IL) (hQ : Q (zFx t, IL) (some (.int (if yen H set then 1 else 0)))) : zcall xs (d + 2) 236 (zFx t, IL) [.ref 145, .int set] Q := by
  refine sX8_isEnough t _ IL (c_mvotesOf hH hM (kI ?_))
  rw [hM.quota]
  unfold yen at hQ
  refine zdec (fun z => ?_) (fun z => ?_)
  · rw [decide_eq_true (show yvt H set < H.quota from z)] at hQ; exact hQ
  · rw [decide_eq_false (show ¬ yvt H set < H.quota from z)] at hQ; exact hQ
theorem c_tiltsAt {set : Int32} {m : Nat} (hH : yOK H) (hM : yMH H IL) (hm : m < H.n) (hQ : Q (zFx t, IL) (some (.int (if yte H m set then 1 else 0)))) : zcall xs (d + 3) 237 (zFx t, IL) [.ref 145, .int (nI m), .int set] Q := by
  have n7 := hH.n7
  refine sX8_tiltsAt t _ _ IL (zdec (fun z => ?_) (fun z => ?_))
  · have hb := (zb_0 set m (by omega)).mp z
    unfold yte at hQ
    rw [hb] at hQ
    have e : yen H (set ||| (1 <<< (nI m &&& 31))) = !decide (yvt H set + H.vo m < H.quota) := by
      unfold yen yvt
      rw [zvs_or H.vo set m hb H.n 0 0 (by omega) (by omega), if_pos (by omega)]
    rw [← e] at hQ
    refine c_isEnough hH hM (kI (zbb (fun e1 => c_isEnough hH hM (kI (zbb (fun e2 => ?_) (fun e2 => ?_)))) (fun e1 => ?_)))
    · rw [e1, e2] at hQ; exact hQ
    · rw [e1, e2] at hQ; exact hQ
    · rw [e1] at hQ; exact hQ
  · have hb : bt set m = true := by
      cases hb : bt set m
      · exact absurd ((zb_0 set m (by omega)).mpr hb) z
      · rfl
    unfold yte at hQ
    rw [hb] at hQ
    exact hQ
end VOTES
