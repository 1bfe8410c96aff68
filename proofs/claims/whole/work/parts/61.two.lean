/-! disarm, trust, odds -/
def yda (n a b s : Nat) : Int32 := if a ≤ b + (n + 1) ∧ b ≤ a + (n + 1) ∧ ¬ (n = 0 ∧ 1 < a + b) then nI (s + (a + b)) else -1
def r_disarm (H : yH) (S : Nat → Int32) (x y n : Int32) : Int32 := ytw H S x y (if n < 0 then -1 else if 99 < n then -1 else yda n.toNatClampNeg (S x.toNatClampNeg).toNatClampNeg (S y.toNatClampNeg).toNatClampNeg 0)
theorem y_sub_i {a b : Nat} (ha : a ≤ 100000) (hb : b ≤ 100000) : (nI a - nI b).toInt = (a : Int) - b := by
  have e1 := nI_toInt (n := a) (by omega)
  have e2 := nI_toInt (n := b) (by omega)
  rw [i_sub (by omega) (by omega) (by omega) (by omega), e1, e2]
theorem y_lt_sub {n a b : Nat} (hn : n ≤ 100000) (ha : a ≤ 100000) (hb : b ≤ 100000) : nI n < nI a - nI b ↔ n + b < a := by
  rw [Int32.lt_iff_toInt_lt, y_sub_i ha hb, nI_toInt (by omega)]
  omega
theorem y_n99 {n : Int32} (h0 : ¬ n < 0) (h1 : ¬ 99 < n) : ∃ k, k ≤ 99 ∧ n = nI k := by
  obtain ⟨k, hk, e⟩ := y_nat (n := 100) h0 (by
    have a1 : ¬ (99 : Int32).toInt < n.toInt := fun q => h1 (Int32.lt_iff_toInt_lt.mpr q)
    have a2 : (99 : Int32).toInt = 99 := by decide
    have a3 : (nI 100).toInt = 100 := by decide
    rw [Int32.lt_iff_toInt_lt, a3]
    omega) (by decide)
  exact ⟨k, by omega, e⟩
def yga (w o no : Int32) : Int32 := if w = 1 then (if o = 1 then 3 else 3 - no) else (if o = 1 then 4 else 0)
def yw1 (k : Nat) : Int32 := nI k >>> (1 &&& 31)
def yw2 (k : Nat) : Int32 := nI k &&& 1
theorem y_ways : ∀ k, k < 4 → nI k / 2 = yw1 k ∧ nI k - nI k / 2 * 2 = yw2 k := by decide
def yrs (sa sb : Int32) (k : Nat) : Bool := !decide (yga (yw1 k) (yw2 k) sb < yga (1 - yw1 k) (yw2 k) sb) && !decide (yga (yw2 k) (yw1 k) sa < yga (1 - yw2 k) (yw1 k) sa)
def ytu (sa sb : Int32) (k : Nat) (p : Nat × Int32 × Int32) : Nat × Int32 × Int32 := if yrs sa sb k then (p.1 + 1, if p.1 = 0 then (yw1 k, yw2 k) else p.2) else p
def ytuf (sa sb : Int32) : Nat × Int32 × Int32 := yfo (ytu sa sb) 4 0 (0, 0, 0)
def ylie (p : Nat × Int32 × Int32) (j : Nat) : Int32 := if j = 0 then p.2.1 else p.2.2
def yln (p : Nat × Int32 × Int32) : Nat := if p.1 = 0 then 0 else 2
def ygc : Nat → Int32 → Int32 → Int32
  | 0, a, _ => a
  | f + 1, a, b => if b = 0 then a else ygc f b (a - a / b * b)
def ygk : Nat → Int32 → Int32 → Bool
  | 0, _, b => decide (b = 0)
  | f + 1, a, b => decide (b = 0) || (decide (0 < b) && ygk f b (a - a / b * b))
def ypwr (b : Int32) : Nat → Int32
  | 0 => 1
  | n + 1 => ypwr b n * b
theorem y_odds : ∀ n, n ≤ 4 → ∀ P, P ≤ 100 → ygk 40 (ypwr 100 n) (ypwr (100 - nI P) n) = true ∧ ¬ ygc 40 (ypwr 100 n) (ypwr (100 - nI P) n) = 0 ∧ ypwr (100 - nI P) n / zmax 1 (ygc 100 (ypwr (100 - nI P) n) (ypwr 100 n)) = ypwr (100 - nI P) n / ygc 40 (ypwr 100 n) (ypwr (100 - nI P) n) ∧ ypwr 100 n / zmax 1 (ygc 100 (ypwr (100 - nI P) n) (ypwr 100 n)) = ypwr 100 n / ygc 40 (ypwr 100 n) (ypwr (100 - nI P) n) := by decide +kernel
def r_odds (H : yH) (n w : Int32) : Int32 := if n < 0 then -1 else if 4 < n then -1 else if w < 0 then -1 else if 1 < w then -1 else if w = 0 then ypwr (100 - H.puns) n.toNatClampNeg / ygc 40 (ypwr 100 n.toNatClampNeg) (ypwr (100 - H.puns) n.toNatClampNeg) else ypwr 100 n.toNatClampNeg / ygc 40 (ypwr 100 n.toNatClampNeg) (ypwr (100 - H.puns) n.toNatClampNeg)
theorem y_n4 {n : Int32} (h0 : ¬ n < 0) (h1 : ¬ 4 < n) : ∃ k, k ≤ 4 ∧ n = nI k := by
  obtain ⟨k, hk, e⟩ := y_nat (n := 5) h0 (by
    have a1 : ¬ (4 : Int32).toInt < n.toInt := fun q => h1 (Int32.lt_iff_toInt_lt.mpr q)
    have a2 : (4 : Int32).toInt = 4 := by decide
    have a3 : (nI 5).toInt = 5 := by decide
    rw [Int32.lt_iff_toInt_lt, a3]
    omega) (by decide)
  exact ⟨k, by omega, e⟩
theorem yin_ex {x : Int32} {n : Nat} (h : yin x 0 n) : ∃ k, k ≤ n ∧ x = nI k := by
  have h1 := h.1
  have h2 := h.2
  have := x.toInt_lt
  refine ⟨x.toInt.toNat, by omega, ?_⟩
  apply Int32.toInt_inj.mp
  rw [nI_toInt (by omega)]
  omega
section TWO
variable {xs : List Int32} {d : Nat} {Q : zQ} {t : Bool} {IL IL0 : zIL} {H : yH} {S : Nat → Int32}
theorem c_disarm {x y n : Int32} (hH : yOK H) (hC : yCH t H IL) (hS : yCS 22 S IL) (hB : ySB H S) (hQ : Q (zFx t, IL) (some (.int (r_disarm H S x y n)))) : zcall xs (d + 4) 108 (zFx t, IL) [.ref 0, .int x, .int y, .int n] Q := by
  have n7 := hH.n7
  unfold r_disarm at hQ
  refine sX7_disarm t _ _ _ IL (c_areTwo hH hC hS (fun h => kI (z0 ?_)) (fun a b ha hb ea eb ne oa ob => kI (z1 ?_)))
  · rw [h] at hQ; exact hQ
  subst ea
  subst eb
  rw [ytw_y n7 ha hb ne oa ob, ycl (by omega), ycl (by omega)] at hQ
  refine zdec (fun z => ?_) (fun z => ?_)
  · rw [if_pos z] at hQ; exact hQ
  rw [if_neg z] at hQ
  refine zdec (fun z2 => ?_) (fun z2 => ?_)
  · rw [if_pos z2] at hQ; exact hQ
  rw [if_neg z2] at hQ
  obtain ⟨k, hk, rfl⟩ := y_n99 z z2
  obtain ⟨p, hp, ep⟩ := yin_ex (n := 99) (hB.no a (by omega))
  obtain ⟨r, hr, er⟩ := yin_ex (n := 99) (hB.no b (by omega))
  refine zix_n (by omega) (by omega) (zix_n (by omega) (by omega) ?_)
  rw [ycl (by omega), ycl (by omega), show IL.1 23 a = S a from hS.no a (by omega), show IL.1 23 b = S b from hS.no b (by omega), ep, er]
  rw [ep, er, ycl (by omega), ycl (by omega), ycl (by omega)] at hQ
  have e1 := y_sub_i (a := p) (b := r) (by omega) (by omega)
  have tail : ∀ v : Int32, v.toInt = ((p : Int) - r).natAbs → zif2 (decide (nI k + 1 < v)) (Q (zFx t, IL) (some (.int (-1)))) (zif2 (decide (nI k = 0)) (zif2 (decide (1 < nI p + nI r)) (Q (zFx t, IL) (some (.int (-1)))) (Q (zFx t, IL) (some (.int (nI p + nI r))))) (Q (zFx t, IL) (some (.int (nI p + nI r))))) := fun v hv => by
    rw [nI_1, nI_add]
    unfold yda at hQ
    have c1 : nI (k + 1) < v ↔ ¬ (p ≤ r + (k + 1) ∧ r ≤ p + (k + 1)) := by
      rw [Int32.lt_iff_toInt_lt, hv, nI_toInt (by omega)]
      omega
    refine zdec (fun w => ?_) (fun w => ?_)
    · rw [if_neg (fun q => c1.mp w ⟨q.1, q.2.1⟩)] at hQ
      exact hQ
    · have w' : p ≤ r + (k + 1) ∧ r ≤ p + (k + 1) := Decidable.byContradiction (fun q => w (c1.mpr q))
      refine zdec (fun u => ?_) (fun u => ?_)
      · have k0 : k = 0 := (nI_eq (b := 0) (by omega) (by omega)).mp u
        refine zdec (fun v1 => ?_) (fun v1 => ?_)
        · have := (nI_ltI (a := 1) (by omega) (by omega)).mp v1
          rw [if_neg (fun q => q.2.2 ⟨k0, this⟩)] at hQ
          exact hQ
        · have : ¬ 1 < p + r := fun q => v1 ((nI_ltI (a := 1) (by omega) (by omega)).mpr q)
          rw [if_pos ⟨w'.1, w'.2, fun q => this q.2⟩, Nat.zero_add] at hQ
          exact hQ
      · have k0 : ¬ k = 0 := fun q => u (by rw [q]; rfl)
        rw [if_pos ⟨w'.1, w'.2, fun q => k0 q.1⟩, Nat.zero_add] at hQ
        exact hQ
  refine sJ9_abs_0f7a4 (zFx t) _ IL (zdec (fun w => kI (tail _ ?_)) (fun w => kI (tail _ ?_)))
  · have w' := Int32.lt_iff_toInt_lt.mp w
    have b0 : (0 : Int32).toInt = 0 := by decide
    rw [i_neg (by omega) (by omega), e1]
    omega
  · have w' : ¬ (nI p - nI r).toInt < (0 : Int32).toInt := fun q => w (Int32.lt_iff_toInt_lt.mpr q)
    have b0 : (0 : Int32).toInt = 0 := by decide
    rw [e1]
    omega
theorem l_disarm {x1 x2 : Int32} {n : Nat} (hn : n ≤ 99) : ∀ (N a b s : Nat), a + b = N → a ≤ 99 → b ≤ 99 → Q (zFx t, IL) (some (.int (yda n a b s))) → gX8_disarm xs d Q 40 [.ref 145, .int x1, .int x2, .int (nI n), .int (nI a), .int (nI b), .int (nI s)] [] (zFx t, IL)
  | 0, a, b, s, hN, ha, hb, hQ => by
    have e1 : a = 0 := by omega
    have e2 : b = 0 := by omega
    subst e1
    subst e2
    unfold yda at hQ
    rw [if_pos ⟨by omega, by omega, fun z => by omega⟩] at hQ
    exact sX8_disarm_40 t _ _ _ _ _ _ IL (zdec (fun z => absurd z (by decide)) (fun _ => hQ))
  | N + 1, a, b, s, hN, ha, hb, hQ => by
    have on : ∀ a' b', a' + b' = N → a' ≤ 99 → b' ≤ 99 → (a' ≤ b' + n → b' ≤ a' + n → yda n a b s = yda n a' b' (s + 1)) → (¬ (a' ≤ b' + n ∧ b' ≤ a' + n) → yda n a b s = -1) → gX8_disarm xs d Q 64 [.ref 145, .int x1, .int x2, .int (nI n), .int (nI a'), .int (nI b'), .int (nI s)] [] (zFx t, IL) := fun a' b' h1 h2 h3 h4 h5 => by
      refine sX8_disarm_64 t _ _ _ _ _ _ IL (zdec (fun z => ?_) (fun z => zdec (fun w => ?_) (fun w => ?_)))
      · rw [y_lt_sub (by omega) (by omega) (by omega)] at z
        rw [h5 (fun q => by omega)] at hQ
        exact hQ
      · rw [y_lt_sub (by omega) (by omega) (by omega)] at w
        rw [h5 (fun q => by omega)] at hQ
        exact hQ
      · rw [y_lt_sub (by omega) (by omega) (by omega)] at z w
        rw [nI_1]
        refine l_disarm hn N a' b' (s + 1) h1 h2 h3 ?_
        rw [← h4 (by omega) (by omega)]
        exact hQ
    refine sX8_disarm_40 t _ _ _ _ _ _ IL (zdec (fun _ => ?_) (fun z => absurd (by rw [nI_add]; exact nI_lt (a := 0) (by omega) (by omega)) z))
    refine zdec (fun z => ?_) (fun z => sX8_disarm_58 t _ _ _ _ _ _ IL ?_)
    · have z' := (nI_ltI (by omega) (by omega)).mp z
      obtain ⟨c, rfl⟩ : ∃ c, b = c + 1 := ⟨b - 1, by omega⟩
      rw [show nI (c + 1) + (-1) = nI c from pk_m1 c]
      refine on a c (by omega) (by omega) (by omega) (fun h1 h2 => ?_) (fun h => ?_)
      · unfold yda
        by_cases q : n = 0 ∧ 1 < a + (c + 1)
        · rw [if_neg (fun z => z.2.2 q), if_neg (fun z => z.2.2 ⟨q.1, by omega⟩)]
        · rw [if_pos ⟨by omega, by omega, q⟩, if_pos ⟨by omega, by omega, fun z => q ⟨z.1, by omega⟩⟩]
          congr 1
          omega
      · unfold yda
        rw [if_neg (fun z => h ⟨by omega, by omega⟩)]
    · have z' : ¬ a < b := fun q => z ((nI_ltI (by omega) (by omega)).mpr q)
      obtain ⟨c, rfl⟩ : ∃ c, a = c + 1 := ⟨a - 1, by omega⟩
      rw [show nI (c + 1) + (-1) = nI c from pk_m1 c]
      refine on c b (by omega) (by omega) (by omega) (fun h1 h2 => ?_) (fun h => ?_)
      · unfold yda
        by_cases q : n = 0 ∧ 1 < c + 1 + b
        · rw [if_neg (fun z => z.2.2 q), if_neg (fun z => z.2.2 ⟨q.1, by omega⟩)]
        · rw [if_pos ⟨by omega, by omega, q⟩, if_pos ⟨by omega, by omega, fun z => q ⟨z.1, by omega⟩⟩]
          congr 1
          omega
      · unfold yda
        rw [if_neg]
        intro z
        have z1 := z.1
        have z2 := z.2.1
        have z3 := z.2.2
        by_cases q : n = 0
        · exact z3 ⟨q, by omega⟩
        · exact h ⟨by omega, by omega⟩
theorem m_disarm {x y n : Int32} (hH : yOK H) (hM : yMH H IL) (hS : yMS 161 S IL) (hB : ySB H S) (hQ : Q (zFx t, IL) (some (.int (r_disarm H S x y n)))) : zcall xs (d + 4) 245 (zFx t, IL) [.ref 145, .int x, .int y, .int n] Q := by
  have n7 := hH.n7
  unfold r_disarm at hQ
  refine sX8_disarm t _ _ _ IL (c_mareTwo hH hM hS (fun h => kI (z0 ?_)) (fun a b ha hb ea eb ne oa ob => kI (z1 ?_)))
  · rw [h] at hQ; exact hQ
  subst ea
  subst eb
  rw [ytw_y n7 ha hb ne oa ob, ycl (by omega), ycl (by omega)] at hQ
  refine c_isIn (fun z => kI (z0 ?_)) (fun z z2 => kI (z1 ?_))
  · by_cases q : n < 0
    · rw [if_pos q] at hQ; exact hQ
    · rw [if_neg q, if_pos (Decidable.byContradiction (fun w => z ⟨q, w⟩))] at hQ; exact hQ
  rw [if_neg z, if_neg z2] at hQ
  obtain ⟨k, hk, rfl⟩ := y_n99 z z2
  obtain ⟨p, hp, ep⟩ := yin_ex (n := 99) (hB.no a (by omega))
  obtain ⟨r, hr, er⟩ := yin_ex (n := 99) (hB.no b (by omega))
  refine zix_n (by omega) (by omega) (zix_n (by omega) (by omega) ?_)
  rw [ycl (by omega), ycl (by omega), hS a (by omega), hS b (by omega), ep, er]
  rw [ep, er, ycl (by omega), ycl (by omega), ycl (by omega)] at hQ
  exact l_disarm hk (p + r) p r 0 rfl hp hr hQ
theorem c_gain {w o no : Int32} (h : Q (zFx t, IL) (some (.int (yga w o no)))) : zcall xs (d + 1) 148 (zFx t, IL) [.int w, .int o, .int no] Q := by
  unfold yga at h
  refine sX7_gain t _ _ _ IL (zdec (fun z => zdec (fun y => ?_) (fun y => ?_)) (fun z => zdec (fun y => ?_) (fun y => ?_)))
  · rw [if_pos z, if_pos y] at h; exact h
  · rw [if_pos z, if_neg y] at h; exact h
  · rw [if_neg z, if_pos y] at h; exact h
  · rw [if_neg z, if_neg y] at h; exact h
theorem c_trusted {w o no : Int32} (h : Q (zFx t, IL) (some (.int (yga w o no)))) : zcall xs (d + 1) 246 (zFx t, IL) [.int w, .int o, .int no] Q := by
  unfold yga at h
  refine sX8_trusted t _ _ _ IL (zdec (fun z => zdec (fun y => ?_) (fun y => ?_)) (fun z => zdec (fun y => ?_) (fun y => ?_)))
  · rw [if_pos z, if_pos y] at h; exact h
  · rw [if_pos z, if_neg y] at h; exact h
  · rw [if_neg z, if_pos y] at h; exact h
  · rw [if_neg z, if_neg y] at h; exact h
theorem c_stays {w o no : Int32} (h0 : yga w o no < yga (1 - w) o no → Q (zFx t, IL) (some (.int 0))) (h1 : ¬ yga w o no < yga (1 - w) o no → Q (zFx t, IL) (some (.int 1))) : zcall xs (d + 2) 147 (zFx t, IL) [.int w, .int o, .int no] Q :=
  sX7_staysWith t _ _ _ IL (c_gain (kI (c_gain (kI (zdec h0 h1)))))
/-- what trust may change in the class -/
def ytc (c j : Nat) : Bool := c == 136 || (c == 0 && j == 11)
def ytm (c j : Nat) : Bool := c == 165 || (c == 145 && j == 62)
/-- what lies, as far as it is found -/
def ylc (L : Nat) (p : Nat × Int32 × Int32) (v : Int32) (f : Nat → Int32) : Prop := v = nI (yln p) ∧ (¬ p.1 = 0 → f 0 = p.2.1 ∧ f 1 = p.2.2)
theorem yCH.tc {A B : zIL} (h : yCH t H A) (f : yfm ytc A B) : yCH t H B := h.fr (fun i h8 h5 h7 => by
  funext j
  refine f.1 _ j ?_
  have := zH_le t
  have := zH_ge t
  unfold ytc
  simp only [Bool.or_eq_false_iff, Bool.and_eq_false_iff, beq_eq_false_iff_ne]
  omega)
theorem l_trust {a b : Nat} (hS : ∀ IL', yfm ytc IL0 IL' → IL'.1 23 = IL0.1 23) (ha : a < 7) (hb : b < 7) (hQ : ∀ IL', yfm ytc IL0 IL' → ylc 0 (ytuf (IL0.1 23 a) (IL0.1 23 b)) (IL'.1 0 11) (IL'.1 136) → Q (zFx t, IL') (some (.int (nI (ytuf (IL0.1 23 a) (IL0.1 23 b)).1)))) : ∀ (k i : Nat) (IL : zIL) (p : Nat × Int32 × Int32) (w5 w6 : Value), i + k = 4 → p.1 ≤ i → yfo (ytu (IL0.1 23 a) (IL0.1 23 b)) k i p = ytuf (IL0.1 23 a) (IL0.1 23 b) → yfm ytc IL0 IL → ylc 0 p (IL.1 0 11) (IL.1 136) → gX7_trust xs (d + 2) Q 21 [.ref 0, .int (nI a), .int (nI b), .int (nI p.1), .int (nI i), w5, w6] [] (zFx t, IL)
  | 0, i, IL, p, w5, w6, hi, hp, he, fr, hl => by
    unfold yfo at he
    rw [← he] at hQ
    exact sX7_trust_21 t _ _ _ _ _ _ IL (zd_f (n := 4) rfl (by omega) (by omega) (hQ IL fr hl))
  | k + 1, i, IL, p, w5, w6, hi, hp, he, fr, hl => by
    unfold yfo at he
    have e23 := hS IL fr
    have skip : yrs (IL0.1 23 a) (IL0.1 23 b) i = false → ∀ w5 w6, gX7_trust xs (d + 2) Q 21 [.ref 0, .int (nI a), .int (nI b), .int (nI p.1), .int (nI i + 1), w5, w6] [] (zFx t, IL) := fun h w5 w6 => by
      have e : ytu (IL0.1 23 a) (IL0.1 23 b) i p = p := by unfold ytu; rw [h]; rfl
      rw [e] at he
      rw [nI_1]
      exact l_trust hS ha hb hQ k (i + 1) IL p w5 w6 (by omega) (by omega) he fr hl
    refine sX7_trust_21 t _ _ _ _ _ _ IL (zd_t (n := 4) rfl (by omega) (by omega) (zix_n (by omega) (by omega) ?_))
    rw [ycl (by omega), ycl (by omega), e23]
    refine c_stays (fun z => kI (z0 (skip ?_ _ _))) (fun z => kI (z1 (zix_n (by omega) (by omega) (c_stays (fun y => kI (z0 (skip ?_ _ _))) (fun y => kI (z1 ?_))))))
    · unfold yrs
      rw [decide_eq_true (show yga (yw1 i) (yw2 i) (IL0.1 23 b) < yga (1 - yw1 i) (yw2 i) (IL0.1 23 b) from z)]
      rfl
    · unfold yrs
      rw [decide_eq_true (show yga (yw2 i) (yw1 i) (IL0.1 23 a) < yga (1 - yw2 i) (yw1 i) (IL0.1 23 a) from by rw [e23] at y; exact y), Bool.and_comm]
      rfl
    · have hr : yrs (IL0.1 23 a) (IL0.1 23 b) i = true := by
        unfold yrs
        rw [decide_eq_false (show ¬ yga (yw1 i) (yw2 i) (IL0.1 23 b) < yga (1 - yw1 i) (yw2 i) (IL0.1 23 b) from z), decide_eq_false (show ¬ yga (yw2 i) (yw1 i) (IL0.1 23 a) < yga (1 - yw2 i) (yw1 i) (IL0.1 23 a) from by rw [e23] at y; exact y)]
        rfl
      have e : ytu (IL0.1 23 a) (IL0.1 23 b) i p = (p.1 + 1, if p.1 = 0 then (yw1 i, yw2 i) else p.2) := by unfold ytu; rw [hr]; rfl
      rw [e] at he
      refine zdec (fun u => ?_) (fun u => ?_)
      · have p0 : p.1 = 0 := (nI_eq (b := 0) (by omega) (by omega)).mp u
        rw [if_pos p0] at he
        rw [nI_1, nI_1]
        refine l_trust hS ha hb hQ k (i + 1) _ (p.1 + 1, yw1 i, yw2 i) _ _ (by omega) (by show p.1 + 1 ≤ i + 1; omega) he (yfm_tr fr (yfm_tr (yfm_wi rfl) (yfm_tr (yfm_wi rfl) (yfm_wi rfl)))) ⟨?_, fun _ => ⟨?_, ?_⟩⟩
        · rw [zwi_at, if_pos rfl]
          unfold yln
          rw [if_neg (by show ¬ p.1 + 1 = 0; omega)]
          rfl
        · rw [zwi_ne (by decide), zwi_at, if_neg (by decide), zwi_at, if_pos rfl]
          rfl
        · rw [zwi_ne (by decide), zwi_at, if_pos rfl]
          rfl
      · have p0 : ¬ p.1 = 0 := fun q => u (by rw [q]; rfl)
        rw [if_neg p0] at he
        rw [nI_1, nI_1]
        refine l_trust hS ha hb hQ k (i + 1) IL (p.1 + 1, p.2) _ _ (by omega) (by show p.1 + 1 ≤ i + 1; omega) he fr ⟨?_, fun _ => hl.2 p0⟩
        rw [hl.1]
        unfold yln
        rw [if_neg p0, if_neg (by show ¬ p.1 + 1 = 0; omega)]
def r_trust (H : yH) (S : Nat → Int32) (x y : Int32) : Int32 := ytw H S x y (nI (ytuf (S x.toNatClampNeg) (S y.toNatClampNeg)).1)
/-- what lies behind trust -/
def ylT (H : yH) (S : Nat → Int32) (x y : Int32) (n : Nat) (f : Nat → Int32) : Prop := ((∀ v, ytw H S x y v = -1) ∧ n = 0) ∨ ((∀ v, ytw H S x y v = v) ∧ n = yln (ytuf (S x.toNatClampNeg) (S y.toNatClampNeg)) ∧ ∀ j, j < n → f j = ylie (ytuf (S x.toNatClampNeg) (S y.toNatClampNeg)) j)
theorem c_trust {x y : Int32} (hH : yOK H) (hC : yCH t H IL) (hS : yCS 22 S IL) (hQ : ∀ IL' n, yfm ytc IL IL' → IL'.1 0 11 = nI n → ylT H S x y n (IL'.1 136) → Q (zFx t, IL') (some (.int (r_trust H S x y)))) : zcall xs (d + 4) 109 (zFx t, IL) [.ref 0, .int x, .int y] Q := by
  have n7 := hH.n7
  unfold r_trust at hQ
  have f0 : yfm ytc IL (zwi IL 0 11 0) := yfm_wi rfl
  have hC0 := hC.tc f0
  have hS0 : yCS 22 S (zwi IL 0 11 0) := hS.fr (zwi_ne (by decide)) (zwi_ne (by decide))
  refine sX7_trust t _ _ IL (c_areTwo hH hC0 hS0 (fun h => kI (z0 ?_)) (fun a b ha hb ea eb ne oa ob => kI (z1 ?_)))
  · have := hQ _ 0 f0 (by rw [zwi_at, if_pos rfl]; rfl) (Or.inl ⟨h, rfl⟩)
    rw [h] at this
    exact this
  · subst ea
    subst eb
    have ey := ytw_y n7 ha hb ne oa ob
    have ea : (zwi IL 0 11 0).1 23 a = S a := hS0.no a (by omega)
    have eb : (zwi IL 0 11 0).1 23 b = S b := hS0.no b (by omega)
    refine l_trust (a := a) (b := b) (fun IL' f => by funext j; exact f.1 23 j rfl) (by omega) (by omega) (fun IL' f hl => ?_) 4 0 _ (0, 0, 0) _ _ (by omega) (by show 0 ≤ 0; omega) rfl yfm_rf ⟨by rw [zwi_at, if_pos rfl]; rfl, fun z => absurd rfl z⟩
    rw [ea, eb] at hl ⊢
    have := hQ IL' _ (yfm_tr f0 f) hl.1 (Or.inr ⟨ey, by rw [ycl (by omega), ycl (by omega)], fun j hj => by
      rw [ycl (by omega), ycl (by omega)]
      have p0 : ¬ (ytuf (S a) (S b)).1 = 0 := fun q => by
        unfold yln at hj
        rw [if_pos q] at hj
        omega
      have hj2 : j < 2 := by
        unfold yln at hj
        rw [if_neg p0] at hj
        exact hj
      unfold ylie
      match j, hj2 with
      | 0, _ => exact (hl.2 p0).1
      | 1, _ => exact (hl.2 p0).2⟩)
    rw [ey, ycl (by omega), ycl (by omega)] at this
    exact this
theorem l_mtrust {a b : Nat} (hS : ∀ IL', yfm ytm IL0 IL' → IL'.1 161 = IL0.1 161) (ha : a < 7) (hb : b < 7) (hQ : ∀ IL', yfm ytm IL0 IL' → ylc 0 (ytuf (IL0.1 161 a) (IL0.1 161 b)) (IL'.1 145 62) (IL'.1 165) → Q (zFx t, IL') (some (.int (nI (ytuf (IL0.1 161 a) (IL0.1 161 b)).1)))) : ∀ (k i : Nat) (IL : zIL) (p : Nat × Int32 × Int32) (w5 w6 w7 : Value), i + k = 4 → p.1 ≤ i → yfo (ytu (IL0.1 161 a) (IL0.1 161 b)) k i p = ytuf (IL0.1 161 a) (IL0.1 161 b) → yfm ytm IL0 IL → ylc 0 p (IL.1 145 62) (IL.1 165) → gX8_trust xs (d + 1) Q 21 [.ref 145, .int (nI a), .int (nI b), .int (nI p.1), .int (nI i), w5, w6, w7] [] (zFx t, IL)
  | 0, i, IL, p, w5, w6, w7, hi, hp, he, fr, hl => by
    unfold yfo at he
    rw [← he] at hQ
    exact sX8_trust_21 t _ _ _ _ _ _ _ IL (zd_f (n := 4) rfl (by omega) (by omega) (hQ IL fr hl))
  | k + 1, i, IL, p, w5, w6, w7, hi, hp, he, fr, hl => by
    unfold yfo at he
    have e23 := hS IL fr
    have skip : yrs (IL0.1 161 a) (IL0.1 161 b) i = false → ∀ w5 w6 w7, gX8_trust xs (d + 1) Q 21 [.ref 145, .int (nI a), .int (nI b), .int (nI p.1), .int (nI i + 1), w5, w6, w7] [] (zFx t, IL) := fun h w5 w6 w7 => by
      have e : ytu (IL0.1 161 a) (IL0.1 161 b) i p = p := by unfold ytu; rw [h]; rfl
      rw [e] at he
      rw [nI_1]
      exact l_mtrust hS ha hb hQ k (i + 1) IL p w5 w6 w7 (by omega) (by omega) he fr hl
    obtain ⟨v1, v2⟩ := y_ways i (by omega)
    refine sX8_trust_21 t _ _ _ _ _ _ _ IL (zd_t (n := 4) rfl (by omega) (by omega) ⟨by decide, by decide, zix_n (by omega) (by omega) ?_⟩)
    rw [v2, v1, ycl (by omega), ycl (by omega), e23]
    refine c_trusted (kI (zix_n (by omega) (by omega) (c_trusted (kI (zdec (fun z => skip ?_ _ _ _) (fun z => zix_n (by omega) (by omega) (c_trusted (kI (zix_n (by omega) (by omega) (c_trusted (kI (zdec (fun y => skip ?_ _ _ _) (fun y => ?_)))))))))))))
    · rw [e23] at z
      unfold yrs
      rw [decide_eq_true z]
      rfl
    · rw [e23] at y
      unfold yrs
      rw [decide_eq_true y, Bool.and_comm]
      rfl
    · rw [e23] at z y
      have hr : yrs (IL0.1 161 a) (IL0.1 161 b) i = true := by
        unfold yrs
        rw [decide_eq_false z, decide_eq_false y]
        rfl
      have e : ytu (IL0.1 161 a) (IL0.1 161 b) i p = (p.1 + 1, if p.1 = 0 then (yw1 i, yw2 i) else p.2) := by unfold ytu; rw [hr]; rfl
      rw [e] at he
      refine zdec (fun u => ?_) (fun u => ?_)
      · have p0 : p.1 = 0 := (nI_eq (b := 0) (by omega) (by omega)).mp u
        rw [if_pos p0] at he
        rw [nI_1, nI_1]
        refine l_mtrust hS ha hb hQ k (i + 1) _ (p.1 + 1, yw1 i, yw2 i) _ _ _ (by omega) (by show p.1 + 1 ≤ i + 1; omega) he (yfm_tr fr (yfm_tr (yfm_wi rfl) (yfm_tr (yfm_wi rfl) (yfm_wi rfl)))) ⟨?_, fun _ => ⟨?_, ?_⟩⟩
        · rw [zwi_at, if_pos rfl]
          unfold yln
          rw [if_neg (by show ¬ p.1 + 1 = 0; omega)]
          rfl
        · rw [zwi_ne (by decide), zwi_at, if_neg (by decide), zwi_at, if_pos rfl]
        · rw [zwi_ne (by decide), zwi_at, if_pos rfl]
      · have p0 : ¬ p.1 = 0 := fun q => u (by rw [q]; rfl)
        rw [if_neg p0] at he
        rw [nI_1, nI_1]
        refine l_mtrust hS ha hb hQ k (i + 1) IL (p.1 + 1, p.2) _ _ _ (by omega) (by show p.1 + 1 ≤ i + 1; omega) he fr ⟨?_, fun _ => hl.2 p0⟩
        rw [hl.1]
        unfold yln
        rw [if_neg p0, if_neg (by show ¬ p.1 + 1 = 0; omega)]
theorem yMH.tm {A B : zIL} (h : yMH H A) (f : yfm ytm A B) : yMH H B := h.fr (fun c j z => f.1 c j (by
  unfold yMHs at z
  unfold ytm
  simp only [Bool.or_eq_true, Bool.and_eq_true, beq_iff_eq] at z
  simp only [Bool.or_eq_false_iff, Bool.and_eq_false_iff, beq_eq_false_iff_ne]
  omega))
theorem m_trust {x y : Int32} (hH : yOK H) (hM : yMH H IL) (hS : yMS 161 S IL) (hQ : ∀ IL' n, yfm ytm IL IL' → IL'.1 145 62 = nI n → ylT H S x y n (IL'.1 165) → Q (zFx t, IL') (some (.int (r_trust H S x y)))) : zcall xs (d + 4) 247 (zFx t, IL) [.ref 145, .int x, .int y] Q := by
  have n7 := hH.n7
  unfold r_trust at hQ
  have f0 : yfm ytm IL (zwi IL 145 62 0) := yfm_wi rfl
  have hM0 := hM.tm f0
  have hS0 : yMS 161 S (zwi IL 145 62 0) := hS.fr (zwi_ne (by decide))
  refine sX8_trust t _ _ IL (c_mareTwo hH hM0 hS0 (fun h => kI (z0 ?_)) (fun a b ha hb ea eb ne oa ob => kI (z1 ?_)))
  · have := hQ _ 0 f0 (by rw [zwi_at, if_pos rfl]; rfl) (Or.inl ⟨h, rfl⟩)
    rw [h] at this
    exact this
  · subst ea
    subst eb
    have ey := ytw_y n7 ha hb ne oa ob
    have ea : (zwi IL 145 62 0).1 161 a = S a := hS0 a (by omega)
    have eb : (zwi IL 145 62 0).1 161 b = S b := hS0 b (by omega)
    refine l_mtrust (a := a) (b := b) (fun IL' f => by funext j; exact f.1 161 j rfl) (by omega) (by omega) (fun IL' f hl => ?_) 4 0 _ (0, 0, 0) _ _ _ (by omega) (by show 0 ≤ 0; omega) rfl yfm_rf ⟨by rw [zwi_at, if_pos rfl]; rfl, fun z => absurd rfl z⟩
    rw [ea, eb] at hl ⊢
    have := hQ IL' _ (yfm_tr f0 f) hl.1 (Or.inr ⟨ey, by rw [ycl (by omega), ycl (by omega)], fun j hj => by
      rw [ycl (by omega), ycl (by omega)]
      have p0 : ¬ (ytuf (S a) (S b)).1 = 0 := fun q => by
        unfold yln at hj
        rw [if_pos q] at hj
        omega
      have hj2 : j < 2 := by
        unfold yln at hj
        rw [if_neg p0] at hj
        exact hj
      unfold ylie
      match j, hj2 with
      | 0, _ => exact (hl.2 p0).1
      | 1, _ => exact (hl.2 p0).2⟩)
    rw [ey, ycl (by omega), ycl (by omega)] at this
    exact this
theorem l_comDiv {x0 x1 : Int32} : ∀ (k i : Nat) (a b : Int32) (w5 : Value), i + k = 100 → Q (zFx t, IL) (some (.int (ygc k a b))) → gX7_commonDivisor xs d Q 7 [.int x0, .int x1, .int a, .int b, .int (nI i), w5] [] (zFx t, IL)
  | 0, i, a, b, w5, hi, hQ => sX7_commonDivisor_7 t _ _ _ _ _ _ IL (zd_f (n := 100) rfl (by omega) (by omega) hQ)
  | k + 1, i, a, b, w5, hi, hQ => by
    unfold ygc at hQ
    refine sX7_commonDivisor_7 t _ _ _ _ _ _ IL (zd_t (n := 100) rfl (by omega) (by omega) (zdec (fun z => ?_) (fun z => ⟨z, ?_⟩)))
    · rw [if_pos z] at hQ; exact hQ
    · rw [if_neg z] at hQ
      rw [nI_1]
      exact l_comDiv k (i + 1) _ _ _ (by omega) hQ
theorem l_divisor {x0 x1 : Int32} : ∀ (k : Nat) (a b : Int32) (w4 : Value), ygk k a b = true → Q (zFx t, IL) (some (.int (ygc k a b))) → gX8_divisor xs d Q 4 [.int x0, .int x1, .int a, .int b, w4] [] (zFx t, IL)
  | 0, a, b, w4, hk, hQ => by
    unfold ygk at hk
    have e := of_decide_eq_true hk
    exact sX8_divisor_4 t _ _ _ _ _ IL (zdec (fun z => absurd z (by rw [e]; decide)) (fun _ => hQ))
  | k + 1, a, b, w4, hk, hQ => by
    unfold ygk at hk
    unfold ygc at hQ
    refine sX8_divisor_4 t _ _ _ _ _ IL (zdec (fun z => ?_) (fun z => ?_))
    · have ne : ¬ b = 0 := fun q => absurd z (by rw [q]; decide)
      rw [if_neg ne] at hQ
      rw [decide_eq_false ne, decide_eq_true z] at hk
      exact ⟨ne, l_divisor k _ _ _ hk hQ⟩
    · rw [decide_eq_false z, Bool.false_and, Bool.or_false] at hk
      rw [if_pos (of_decide_eq_true hk)] at hQ
      exact hQ
theorem l_odds {x2 : Int32} {n : Nat} (hn : n ≤ 4) (hC : yCH t H IL) (hd : ∀ IL' : zIL, IL' = IL → ¬ zmax 1 (ygc 100 (ypwr (100 - H.puns) n) (ypwr 100 n)) = 0) (hQ : Q (zFx t, IL) (some (.int (if x2 = 0 then ypwr (100 - H.puns) n / zmax 1 (ygc 100 (ypwr (100 - H.puns) n) (ypwr 100 n)) else ypwr 100 n / zmax 1 (ygc 100 (ypwr (100 - H.puns) n) (ypwr 100 n)))))) : ∀ (k i : Nat), i + k = n → gX7_odds xs (d + 1) Q 28 [.ref 0, .int (nI n), .int x2, .int (ypwr (100 - H.puns) i), .int (ypwr 100 i), .int (nI i)] [] (zFx t, IL)
  | 0, i, hi => by
    have e : i = n := by omega
    subst e
    have h0 := hd IL rfl
    refine sX7_odds_28 t _ _ _ _ _ IL (zd_f rfl (by omega) (by omega) (sX7_commonDivisor t _ _ IL (l_comDiv 100 0 _ _ _ (by omega) (kI (zdec (fun z => c_max (kI ⟨h0, ?_⟩)) (fun z => c_max (kI ⟨h0, ?_⟩)))))))
    · rw [if_pos z] at hQ; exact hQ
    · rw [if_neg z] at hQ; exact hQ
  | k + 1, i, hi => by
    refine sX7_odds_28 t _ _ _ _ _ IL (zd_t rfl (by omega) (by omega) ?_)
    rw [hC.puns, nI_1]
    exact l_odds hn hC hd hQ k (i + 1) (by omega)
theorem zmax_1n (x : Int32) : ¬ zmax 1 x = 0 := fun z => by
  have := zmax_i 1 x
  rw [z] at this
  have a : (0 : Int32).toInt = 0 := by decide
  have b : (1 : Int32).toInt = 1 := by decide
  omega
theorem c_odds {n w : Int32} (hH : yOK H) (hC : yCH t H IL) (hQ : Q (zFx t, IL) (some (.int (r_odds H n w)))) : zcall xs (d + 2) 127 (zFx t, IL) [.ref 0, .int n, .int w] Q := by
  unfold r_odds at hQ
  refine sX7_odds t _ _ IL (zdec (fun z => ?_) (fun z => ?_))
  · rw [if_pos z] at hQ; exact hQ
  rw [if_neg z] at hQ
  refine zdec (fun z2 => ?_) (fun z2 => ?_)
  · rw [if_pos z2] at hQ; exact hQ
  rw [if_neg z2] at hQ
  refine zdec (fun z3 => ?_) (fun z3 => ?_)
  · rw [if_pos z3] at hQ; exact hQ
  rw [if_neg z3] at hQ
  refine zdec (fun z4 => ?_) (fun z4 => ?_)
  · rw [if_pos z4] at hQ; exact hQ
  rw [if_neg z4] at hQ
  obtain ⟨k, hk, rfl⟩ := y_n4 z z2
  obtain ⟨P, hP, eP⟩ := yin_ex (n := 100) hH.puns
  have key := y_odds k hk P hP
  rw [← eP] at key
  rw [ycl (by omega), ← key.2.2.1, ← key.2.2.2] at hQ
  exact l_odds hk hC (fun _ _ => zmax_1n _) hQ k 0 (by omega)
theorem l_power {b : Int32} {n : Nat} (hn : n ≤ 4) (hQ : Q (zFx t, IL) (some (.int (ypwr b n)))) : ∀ (k i : Nat), i + k = n → gX8_power xs d Q 4 [.int b, .int (nI n), .int (ypwr b i), .int (nI i)] [] (zFx t, IL)
  | 0, i, hi => by
    have e : i = n := by omega
    subst e
    exact sX8_power_4 t _ _ _ _ IL (zd_f rfl (by omega) (by omega) hQ)
  | k + 1, i, hi => by
    refine sX8_power_4 t _ _ _ _ IL (zd_t rfl (by omega) (by omega) ?_)
    rw [nI_1]
    exact l_power hn hQ k (i + 1) (by omega)
theorem m_odds {n w : Int32} (hH : yOK H) (hM : yMH H IL) (hQ : Q (zFx t, IL) (some (.int (r_odds H n w)))) : zcall xs (d + 2) 266 (zFx t, IL) [.ref 145, .int n, .int w] Q := by
  unfold r_odds at hQ
  refine sX8_odds t _ _ IL (c_isIn (fun z => kI (z0 ?_)) (fun z z2 => kI (z1 (c_isIn (fun z => kI (z0 ?_)) (fun z3 z4 => kI (z1 ?_))))))
  · by_cases q : n < 0
    · rw [if_pos q] at hQ; exact hQ
    · rw [if_neg q, if_pos (Decidable.byContradiction (fun w => z ⟨q, w⟩))] at hQ; exact hQ
  · rename_i z00
    rw [if_neg ‹¬ n < 0›, if_neg ‹¬ 4 < n›] at hQ
    by_cases q : w < 0
    · rw [if_pos q] at hQ; exact hQ
    · rw [if_neg q, if_pos (Decidable.byContradiction (fun w => z ⟨q, w⟩))] at hQ; exact hQ
  · rw [if_neg z, if_neg z2, if_neg z3, if_neg z4] at hQ
    obtain ⟨k, hk, rfl⟩ := y_n4 z z2
    obtain ⟨P, hP, eP⟩ := yin_ex (n := 100) hH.puns
    have key := y_odds k hk P hP
    rw [← eP] at key
    rw [ycl (by omega)] at hQ
    rw [hM.puns]
    refine sX8_power t _ _ IL (l_power hk (kI (sX8_power t _ _ IL (l_power hk (kI (sX8_divisor t _ _ IL (l_divisor 40 _ _ _ key.1 (kI (zdec (fun q => ⟨key.2.1, ?_⟩) (fun q => ⟨key.2.1, ?_⟩)))))) k 0 (by omega)))) k 0 (by omega))
    · rw [if_pos q] at hQ; exact hQ
    · rw [if_neg q] at hQ; exact hQ
end TWO
