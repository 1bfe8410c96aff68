/-! fits, sure, ask -/
def ysk (X : yX) (k : Int32) (i : Nat) : Bool := !decide (k < X.sto i) && (decide (X.sun i = -1) || decide (k < X.sun i))
def yat (X : yX) (v i : Nat) : Bool := !decide (ytr X.H (nI v) (X.sof i) < X.sno i)
def yfi1 (X : yX) (k : Int32) (v : Nat) : Nat → Nat → Bool
  | 0, _ => true
  | m + 1, i => (!ysk X k i || (yat X v i == X.sis i)) && yfi1 X k v m (i + 1)
def yfs (X : yX) (k : Int32) (v : Nat) : Bool := yope X.H && yfi1 X k v X.cnt 0
def ysu (w : Int32) (p : Nat → Bool) (v : Nat) (b : Int32) : Int32 := if p v then (if w = 1 then nI v else if b = -1 then nI v else b) else b
def r_sure (X : yX) (w k : Int32) : Int32 := if w = 0 then yfo (ysu w (yfs X k)) 21 0 (-1) else if w = 1 then yfo (ysu w (yfs X k)) 21 0 (-1) else -1
/-- how many of the first m that fit have the same track as v -/
def yT (p : Nat → Bool) (g : Nat → Nat) (c : Nat) : Nat → Nat
  | 0 => 0
  | m + 1 => yT p g c m + (if p m && decide (g m = c) then 1 else 0)
def yL1 (p : Nat → Bool) (g : Nat → Nat) (v a : Nat) : Nat := max a (if p v then yT p g (g v) 21 else 0)
def yL (p : Nat → Bool) (g : Nat → Nat) : Nat := yfo (yL1 p g) 21 0 0
def yM1 (p : Nat → Bool) (g : Nat → Nat) (v a : Nat) : Nat := if p v then max a (yT p g (g v) (v + 1)) else a
def yMm (p : Nat → Bool) (g : Nat → Nat) : Nat := yfo (yM1 p g) 21 0 0
theorem yT_mono (p : Nat → Bool) (g : Nat → Nat) (c : Nat) : ∀ {m n : Nat}, m ≤ n → yT p g c m ≤ yT p g c n := by
  intro m n h
  induction n with
  | zero =>
    have : m = 0 := by omega
    rw [this]
    exact Nat.le_refl _
  | succ n ih =>
    by_cases e : m = n + 1
    · rw [e]; exact Nat.le_refl _
    · have := ih (by omega)
      rw [yT]
      omega
theorem yT_le (p : Nat → Bool) (g : Nat → Nat) (c : Nat) : ∀ m, yT p g c m ≤ m
  | 0 => Nat.le_refl _
  | m + 1 => by
    have := yT_le p g c m
    rw [yT]
    split <;> omega
theorem yL_ge (p : Nat → Bool) (g : Nat → Nat) : ∀ (k i a : Nat), a ≤ yfo (yL1 p g) k i a ∧ ∀ v, i ≤ v → v < i + k → p v = true → yT p g (g v) 21 ≤ yfo (yL1 p g) k i a
  | 0, i, a => ⟨Nat.le_refl _, fun v h1 h2 _ => by omega⟩
  | k + 1, i, a => by
    obtain ⟨h1, h2⟩ := yL_ge p g k (i + 1) (yL1 p g i a)
    unfold yfo
    refine ⟨Nat.le_trans ?_ h1, fun v a1 a2 hp => ?_⟩
    · unfold yL1; exact Nat.le_max_left _ _
    · by_cases e : v = i
      · subst e
        refine Nat.le_trans ?_ h1
        unfold yL1
        rw [if_pos hp]
        exact Nat.le_max_right _ _
      · exact h2 v (by omega) (by omega) hp
theorem yL_ex (p : Nat → Bool) (g : Nat → Nat) : ∀ (k i a : Nat), yfo (yL1 p g) k i a = a ∨ ∃ v, i ≤ v ∧ v < i + k ∧ p v = true ∧ yfo (yL1 p g) k i a = yT p g (g v) 21
  | 0, i, a => Or.inl rfl
  | k + 1, i, a => by
    unfold yfo
    rcases yL_ex p g k (i + 1) (yL1 p g i a) with h | ⟨v, h1, h2, h3, h4⟩
    · rw [h]
      unfold yL1
      by_cases hp : p i = true
      · rw [if_pos hp]
        rcases Nat.le_total a (yT p g (g i) 21) with q | q
        · right; exact ⟨i, by omega, by omega, hp, Nat.max_eq_right q⟩
        · left; exact Nat.max_eq_left q
      · rw [if_neg hp]; left; exact Nat.max_eq_left (Nat.zero_le _)
    · exact Or.inr ⟨v, by omega, by omega, h3, h4⟩
theorem yM_inv (p : Nat → Bool) (g : Nat → Nat) : (∀ c, yT p g c 21 ≤ yMm p g) ∧ (yMm p g = 0 ∨ ∃ v, v < 21 ∧ p v = true ∧ yMm p g ≤ yT p g (g v) 21) := by
  have key := yfo_inv (f := yM1 p g) (fun m a => (∀ c, yT p g c m ≤ a) ∧ (a = 0 ∨ ∃ v, v < m ∧ p v = true ∧ a ≤ yT p g (g v) m)) 21 0 0 ⟨fun c => Nat.le_refl _, Or.inl rfl⟩ (fun j b _ hj hp => by
    obtain ⟨h1, h2⟩ := hp
    unfold yM1
    by_cases hpj : p j = true
    · rw [if_pos hpj]
      have eT : yT p g (g j) (j + 1) = yT p g (g j) j + 1 := by rw [yT, hpj, decide_eq_true rfl]; rfl
      refine ⟨fun c => ?_, ?_⟩
      · by_cases e : g j = c
        · subst e
          exact Nat.le_max_right _ _
        · have : yT p g c (j + 1) = yT p g c j := by rw [yT, decide_eq_false e, Bool.and_false]; rfl
          rw [this]
          exact Nat.le_trans (h1 c) (Nat.le_max_left _ _)
      · right
        rcases Nat.le_total b (yT p g (g j) (j + 1)) with q | q
        · exact ⟨j, by omega, hpj, by rw [Nat.max_eq_right q]; exact Nat.le_refl _⟩
        · rw [Nat.max_eq_left q]
          rcases h2 with h2 | ⟨v, v1, v2, v3⟩
          · omega
          · exact ⟨v, by omega, v2, Nat.le_trans v3 (yT_mono p g (g v) (by omega))⟩
    · rw [if_neg hpj]
      have hf : p j = false := by cases e : p j; rfl; exact absurd e hpj
      refine ⟨fun c => ?_, ?_⟩
      · have : yT p g c (j + 1) = yT p g c j := by rw [yT, hf]; rfl
        rw [this]
        exact h1 c
      · rcases h2 with h2 | ⟨v, v1, v2, v3⟩
        · exact Or.inl h2
        · exact Or.inr ⟨v, by omega, v2, Nat.le_trans v3 (yT_mono p g (g v) (by omega))⟩)
  exact key
theorem yL_M (p : Nat → Bool) (g : Nat → Nat) : yL p g = yMm p g := by
  obtain ⟨m1, m2⟩ := yM_inv p g
  obtain ⟨l1, l2⟩ := yL_ge p g 21 0 0
  apply Nat.le_antisymm
  · rcases yL_ex p g 21 0 0 with h | ⟨v, _, _, _, h⟩
    · show yfo _ _ _ _ ≤ _; rw [h]; exact Nat.zero_le _
    · show yfo _ _ _ _ ≤ _; rw [h]; exact m1 _
  · rcases m2 with h | ⟨v, v1, v2, v3⟩
    · rw [h]; exact Nat.zero_le _
    · exact Nat.le_trans v3 (l2 v (by omega) (by omega) v2)
theorem yL_le (p : Nat → Bool) (g : Nat → Nat) : yL p g ≤ 21 := by
  rcases yL_ex p g 21 0 0 with h | ⟨v, _, _, _, h⟩
  · show yfo _ _ _ _ ≤ _; rw [h]; decide
  · show yfo _ _ _ _ ≤ _; rw [h]; exact yT_le _ _ _ _
/-- the track as a number -/
def yg0 (X : yX) (n v : Nat) : Nat := (ytr X.H (nI v) n).toNatClampNeg
def yLn (X : yX) (k : Int32) (n : Nat) : Nat := yL (yfs X k) (yg0 X n)
def yak (L : Nat → Nat) (n b : Nat) : Nat := if L n < L b then n else b
def yas (X : yX) (k : Int32) : Nat := yfo (yak (yLn X k)) 6 1 0
def r_ask (X : yX) (w k : Int32) : Int32 := if ycn (yfs X k) 21 = 0 then -1 else if w = 0 then nI (yas X k) else if w = 1 then nI (yLn X k (yas X k)) else -1
theorem ytr_in {H : yH} (hH : yOK H) (v : Int32) : ∀ n, yin (ytr H v n) 0 29
  | 0 => ⟨by rw [ytr]; decide, by rw [ytr]; decide⟩
  | n + 1 => by
    have ih := ytr_in hH v n
    have i1 := ih.1
    have i2 := ih.2
    have c1 := hH.cock.1
    have c2 := hH.cock.2
    rw [ytr]
    unfold ytr1
    split
    · split
      · have z := Int32.lt_iff_toInt_lt.mp ‹_›
        have e : (ynw (ytr H v n) (zwv H.ss (H.sh n) v (H.vo (H.n - 1)) (ytr H v n) 0 (nI n))).toInt = _ := ynw_i ⟨by omega, by omega⟩
        constructor
        · rw [e]; omega
        · omega
      · exact ⟨by decide, by decide⟩
    · exact ih
theorem yg0_e {X : yX} (hH : yOK X.H) (n v : Nat) : yg0 X n v ≤ 29 ∧ ytr X.H (nI v) n = nI (yg0 X n v) := by
  have h := ytr_in hH (nI v) n
  have h1 := h.1
  have h2 := h.2
  have e : ytr X.H (nI v) n = nI (ytr X.H (nI v) n).toInt.toNat := by
    apply Int32.toInt_inj.mp
    rw [nI_toInt (by omega)]
    omega
  have e2 : yg0 X n v = (ytr X.H (nI v) n).toInt.toNat := rfl
  exact ⟨by omega, by rw [e2]; exact e⟩
section FITS
variable {xs : List Int32} {d : Nat} {Q : zQ} {t : Bool} {IL IL0 : zIL} {X : yX} {k : Int32}
theorem y_v7 (v n : Nat) : nI v * 7 + nI n = nI (7 * v + n) := by
  rw [show (7 : Int32) = nI 7 from rfl, pk_mul, nI_add]
  congr 1
  omega
theorem y_7v (v n : Nat) : 7 * nI v + nI n = nI (7 * v + n) := by
  rw [show (7 : Int32) = nI 7 from rfl, pk_mul, nI_add]
theorem l_borne {v : Nat} (hI : yI X) (hC : yC t X IL) (ho : yope X.H = true) (hv : v ≤ 20) : ∀ (m i : Nat) (w4 w5 : Value), i + m = X.cnt → Q (zFx t, IL) (some (.int (if yfi1 X k v m i then 1 else 0))) → gX2_isBorneOut xs d Q 2 [.ref 128, .int (nI v), .int k, .int (nI i), w4, w5] [] (zFx t, IL)
  | 0, i, w4, w5, hi, hQ => by
    have c30 := hI.cnt
    exact sX2_isBorneOut_2 t _ _ _ _ _ IL (zd_f hC.cnt (by omega) (by omega) hQ)
  | m + 1, i, w4, w5, hi, hQ => by
    have c30 := hI.cnt
    have s6 := hI.sof i (by omega)
    unfold yfi1 at hQ
    have et : IL.1 134 (7 * v + X.sof i) = ytr X.H (nI v) (X.sof i) := hC.trk ho v (X.sof i) hv s6
    have next : ∀ b : Bool, (!ysk X k i || (yat X v i == X.sis i)) = true → ∀ w4 w5, gX2_isBorneOut xs d Q 2 [.ref 128, .int (nI v), .int k, .int (nI i + 1), w4, w5] [] (zFx t, IL) := fun _ h w4 w5 => by
      rw [h, Bool.true_and] at hQ
      rw [nI_1]
      exact l_borne hI hC ho hv m (i + 1) w4 w5 (by omega) hQ
    -- it counts
    have yes : ysk X k i = true → gX2_isBorneOut xs d Q 41 [.ref 128, .int (nI v), .int k, .int (nI i), w4, w5] [] (zFx t, IL) := fun h => by
      refine sX2_isBorneOut_41 t _ _ _ _ _ IL (zix_n (by omega) (by omega) ?_)
      rw [ycl (by omega), hC.sof i (by omega), y_v7, hC.sno i (by omega), hC.sis i (by omega)]
      refine zix_n (by omega) (by omega) (zix_n (by omega) (by omega) ?_)
      rw [ycl (by omega), et]
      refine zdec (fun z => zix_n (by omega) (by omega) ?_) (fun z => zix_n (by omega) (by omega) ?_)
      · have ea : yat X v i = false := by unfold yat; rw [decide_eq_true z]; rfl
        cases e : X.sis i
        · exact zdec (fun _ => sX2_isBorneOut_98 t _ _ _ _ _ IL (next true (by rw [h, ea, e]; rfl) _ _)) (fun q => absurd rfl q)
        · rw [h, ea, e] at hQ
          exact zdec (fun q => absurd q (by decide)) (fun _ => hQ)
      · have ea : yat X v i = true := by unfold yat; rw [decide_eq_false z]; rfl
        cases e : X.sis i
        · rw [h, ea, e] at hQ
          exact zdec (fun q => absurd q (by decide)) (fun _ => hQ)
        · exact zdec (fun _ => sX2_isBorneOut_98 t _ _ _ _ _ IL (next true (by rw [h, ea, e]; rfl) _ _)) (fun q => absurd rfl q)
    -- it doesn't
    have nope : ysk X k i = false → gX2_isBorneOut xs d Q 45 [.ref 128, .int (nI v), .int k, .int (nI i), w4, w5] [] (zFx t, IL) := fun h => by
      refine sX2_isBorneOut_45 t _ _ _ _ _ IL (zix_n (by omega) (by omega) ?_)
      rw [ycl (by omega), hC.sof i (by omega), y_v7]
      refine zix_n (by omega) (by omega) (zix_n (by omega) (by omega) ?_)
      exact zdec (fun _ => sX2_isBorneOut_98 t _ _ _ _ _ IL (next true (by rw [h]; rfl) _ _)) (fun _ => sX2_isBorneOut_98 t _ _ _ _ _ IL (next true (by rw [h]; rfl) _ _))
    refine sX2_isBorneOut_2 t _ _ _ _ _ IL (zd_t hC.cnt (by omega) (by omega) (zix_n (by omega) (by omega) ?_))
    rw [ycl (by omega), hC.sto i (by omega), hC.sun i (by omega)]
    refine zdec (fun z => nope (by unfold ysk; rw [decide_eq_true z]; rfl)) (fun z => zix_n (by omega) (by omega) ?_)
    by_cases e : X.sun i = -1
    · rw [if_pos e]
      exact zdec (fun _ => yes (by unfold ysk; rw [decide_eq_false z, decide_eq_true e]; rfl)) (fun q => absurd rfl q)
    · rw [if_neg e]
      have hs := (hI.sun i (by omega)).resolve_left e
      refine zdec (fun q => absurd q (fun q => by
        have := hs.2
        rw [q] at this
        exact absurd this (by decide))) (fun _ => zix_n (by omega) (by omega) (zdec (fun q => yes ?_) (fun q => nope ?_)))
      · unfold ysk; rw [decide_eq_false z, decide_eq_true q, Bool.or_true]; rfl
      · unfold ysk; rw [decide_eq_false z, decide_eq_false e, decide_eq_false q]; rfl
theorem l_fitting (hI : yI X) (hC : yC t X IL) (hQ : Q (zFx t, IL) (some (.int (yset (yfs X k) 21)))) : ∀ (m v : Nat), v + m = 21 → gX2_fitting xs (d + 1) Q 4 [.ref 128, .int k, .int (yset (yfs X k) v), .int (nI v)] [] (zFx t, IL)
  | 0, v, hv => by
    have e : v = 21 := by omega
    subst e
    exact sX2_fitting_4 t _ _ _ IL (zdec (fun _ => hQ) (fun z => absurd (by decide) z))
  | m + 1, v, hv => by
    refine sX2_fitting_4 t _ _ _ IL (zdec (fun z => absurd z (nI_nlt (a := 20) (by omega) (by omega))) (fun _ => ?_))
    rw [hC.ope]
    refine zbb (fun e => ?_) (fun e => ?_)
    · have z : ∀ n, yset (yfs X k) n = 0 := fun n => yset_f n (fun i _ => by unfold yfs; rw [e]; rfl)
      rw [z 21] at hQ
      rw [z v]
      exact hQ
    · have ih := l_fitting hI hC hQ m (v + 1) (by omega)
      refine sX2_isBorneOut t _ _ IL (l_borne hI hC e (by omega) X.cnt 0 _ _ (by omega) (kI (zbb (fun q => ?_) (fun q => ?_))))
      · rw [yset, if_neg (by unfold yfs; rw [e, q]; decide)] at ih
        rw [nI_1]
        exact ih
      · rw [yset, if_pos (by unfold yfs; rw [e, q]; rfl)] at ih
        rw [nI_1]
        exact ih
theorem c_fitting (hI : yI X) (hC : yC t X IL) (hQ : Q (zFx t, IL) (some (.int (yset (yfs X k) 21)))) : zcall xs (d + 2) 31 (zFx t, IL) [.ref 128, .int k] Q :=
  sX2_fitting t _ IL (l_fitting hI hC hQ 21 0 (by omega))
theorem c_fits (hI : yI X) (hC : yC t X IL) (hQ : Q (zFx t, IL) (some (.int (nI (ycn (yfs X k) 21))))) : zcall xs (d + 3) 132 (zFx t, IL) [.ref 0, .int k] Q := by
  refine sX7_fits t _ IL (c_fitting hI hC (kI (c_bitCount (kI ?_))))
  rw [y_bc21]
  exact hQ
theorem l_sure {w x2 : Int32} {p : Nat → Bool} : ∀ (m v : Nat) (b : Int32), v + m = 21 → Q (zFx t, IL) (some (.int (yfo (ysu w p) m v b))) → gX7_sure xs (d + 1) Q 26 [.ref 0, .int w, .int x2, .int (yset p 21), .int b, .int (nI v)] [] (zFx t, IL)
  | 0, v, b, hv, hQ => by
    have e : v = 21 := by omega
    subst e
    exact sX7_sure_26 t _ _ _ _ _ IL (zdec (fun _ => hQ) (fun z => absurd (by decide) z))
  | m + 1, v, b, hv, hQ => by
    unfold yfo at hQ
    have go : ∀ b', b' = ysu w p v b → gX7_sure xs (d + 1) Q 26 [.ref 0, .int w, .int x2, .int (yset p 21), .int b', .int (nI v + 1)] [] (zFx t, IL) := fun b' e => by
      rw [nI_1, e]
      exact l_sure m (v + 1) _ (by omega) hQ
    have eb : bt (yset p 21) v = p v := by rw [b_set 21 (by decide) v (by omega), decide_eq_true (by omega), Bool.true_and]
    refine sX7_sure_26 t _ _ _ _ _ IL (zdec (fun z => absurd z (nI_nlt (a := 20) (by omega) (by omega))) (fun _ => c_has (by omega) (fun hb => kI (z0 (go b ?_))) (fun hb => kI (z1 (zdec (fun z => go (nI v) ?_) (fun z => zdec (fun y => go (nI v) ?_) (fun y => go b ?_)))))))
    · rw [eb] at hb
      unfold ysu; rw [hb]; rfl
    · rw [eb] at hb
      unfold ysu; rw [hb, if_pos rfl, if_pos z]
    · rw [eb] at hb
      unfold ysu; rw [hb, if_pos rfl, if_neg z, if_pos y]
    · rw [eb] at hb
      unfold ysu; rw [hb, if_pos rfl, if_neg z, if_neg y]
theorem c_sure {w : Int32} (hI : yI X) (hC : yC t X IL) (hQ : Q (zFx t, IL) (some (.int (r_sure X w k)))) : zcall xs (d + 3) 133 (zFx t, IL) [.ref 0, .int w, .int k] Q := by
  unfold r_sure at hQ
  refine sX7_sure t _ _ IL (zdec (fun z => c_fitting hI hC (kI (l_sure 21 0 (-1) (by omega) ?_))) (fun z => zdec (fun y => c_fitting hI hC (kI (l_sure 21 0 (-1) (by omega) ?_))) (fun y => ?_)))
  · rw [if_pos z] at hQ; exact hQ
  · rw [if_neg z, if_pos y] at hQ; exact hQ
  · rw [if_neg z, if_neg y] at hQ; exact hQ
theorem y_max2 {a b : Nat} (ha : a ≤ 4000) (hb : b ≤ 4000) : zmax (nI a) (nI b) = nI (max a b) := by
  unfold zmax
  split
  · have := (nI_ltI (a := a) (b := b) (by omega) (by omega)).mp ‹_›
    rw [Nat.max_eq_right (by omega)]
  · have : ¬ a < b := fun q => absurd ((nI_ltI (by omega) (by omega)).mpr q) ‹_›
    rw [Nat.max_eq_left (by omega)]
theorem l_left18 {n v a : Nat} (hI : yI X) (hC : yC t X IL) (ho : yope X.H = true) (hn : n ≤ 6) (hv : v ≤ 20) (ha : a ≤ 21) (h5 : ∀ w5 w6 w7, gX2_leftAtMost xs (d + 1) Q 5 [.ref 128, .int (nI n), .int (yset (yfs X k) 21), .int (nI (yL1 (yfs X k) (yg0 X n) v a)), .int (nI (v + 1)), w5, w6, w7] [] (zFx t, IL)) : ∀ (m o : Nat) (w7 : Value), o + m = 21 → gX2_leftAtMost xs (d + 1) Q 18 [.ref 128, .int (nI n), .int (yset (yfs X k) 21), .int (nI a), .int (nI v), .int (nI (if yfs X k v then yT (yfs X k) (yg0 X n) (yg0 X n v) o else 0)), .int (nI o), w7] [] (zFx t, IL)
  | 0, o, w7, hm => by
    have e : o = 21 := by omega
    subst e
    have q := yT_le (yfs X k) (yg0 X n) (yg0 X n v) 21
    refine sX2_leftAtMost_18 t _ _ _ _ _ _ _ IL (zdec (fun _ => c_max (kI ?_)) (fun z => absurd (by decide) z))
    rw [y_max2 (by omega) (by split <;> omega), nI_1]
    exact h5 _ _ _
  | m + 1, o, w7, hm => by
    have ih := fun w7 => l_left18 hI hC ho hn hv ha h5 m (o + 1) w7 (by omega)
    have ev : bt (yset (yfs X k) 21) v = yfs X k v := by rw [b_set 21 (by decide) v (by omega), decide_eq_true (by omega), Bool.true_and]
    have eo : bt (yset (yfs X k) 21) o = yfs X k o := by rw [b_set 21 (by decide) o (by omega), decide_eq_true (by omega), Bool.true_and]
    have tv := yg0_e (X := X) hI.H n v
    have to' := yg0_e (X := X) hI.H n o
    have t1 : IL.1 134 (7 * v + n) = nI (yg0 X n v) := by rw [hC.trk ho v n hv hn]; exact tv.2
    have t2 : IL.1 134 (7 * o + n) = nI (yg0 X n o) := by rw [hC.trk ho o n (by omega) hn]; exact to'.2
    refine sX2_leftAtMost_18 t _ _ _ _ _ _ _ IL (zdec (fun z => absurd z (nI_nlt (a := 20) (by omega) (by omega))) (fun _ => ?_))
    rw [y_v7, y_v7]
    refine zix_n (by omega) (by omega) (zix_n (by omega) (by omega) ?_)
    rw [ycl (by omega), ycl (by omega), t1, t2, nI_1]
    have stay : (yfs X k v && (yfs X k o && decide (yg0 X n o = yg0 X n v))) = false → ∀ w7, gX2_leftAtMost xs (d + 1) Q 18 [.ref 128, .int (nI n), .int (yset (yfs X k) 21), .int (nI a), .int (nI v), .int (nI (if yfs X k v then yT (yfs X k) (yg0 X n) (yg0 X n v) o else 0)), .int (nI (o + 1)), w7] [] (zFx t, IL) := fun h w7 => by
      have := ih w7
      rw [yT] at this
      cases e1 : yfs X k v
      · rw [e1] at this
        exact this
      · rw [e1] at this h
        rw [Bool.true_and] at h
        rw [h] at this
        exact this
    refine zdec (fun z => c_has (by omega) (fun hb => kI (z0 (stay ?_ _))) (fun hb => kI (z1 (c_has (by omega) (fun hb2 => kI (z0 (stay ?_ _))) (fun hb2 => kI (z1 ?_)))))) (fun z => stay ?_ _)
    · rw [ev] at hb; rw [hb]; rfl
    · rw [eo] at hb2; rw [hb2, Bool.false_and, Bool.and_false]
    · rw [ev] at hb
      rw [eo] at hb2
      have e : yg0 X n v = yg0 X n o := (nI_eq (by omega) (by omega)).mp z
      have := ih (.int 1)
      rw [yT, hb, hb2, decide_eq_true e.symm, if_pos rfl, Bool.and_self, if_pos rfl] at this
      rw [hb, if_pos rfl, nI_1]
      exact this
    · rw [decide_eq_false (fun e => z (by rw [e])), Bool.and_false, Bool.and_false]
theorem l_left5 {n : Nat} (hI : yI X) (hC : yC t X IL) (ho : yope X.H = true) (hn : n ≤ 6) : ∀ (m v a : Nat) (w5 w6 w7 : Value), v + m = 21 → a ≤ 21 → Q (zFx t, IL) (some (.int (nI (yfo (yL1 (yfs X k) (yg0 X n)) m v a)))) → gX2_leftAtMost xs (d + 1) Q 5 [.ref 128, .int (nI n), .int (yset (yfs X k) 21), .int (nI a), .int (nI v), w5, w6, w7] [] (zFx t, IL)
  | 0, v, a, w5, w6, w7, hm, ha, hQ => by
    have e : v = 21 := by omega
    subst e
    exact sX2_leftAtMost_5 t _ _ _ _ _ _ _ IL (zdec (fun _ => hQ) (fun z => absurd (by decide) z))
  | m + 1, v, a, w5, w6, w7, hm, ha, hQ => by
    unfold yfo at hQ
    have q := yT_le (yfs X k) (yg0 X n) (yg0 X n v) 21
    have hb : yL1 (yfs X k) (yg0 X n) v a ≤ 21 := by
      unfold yL1
      split
      · exact Nat.max_le.mpr ⟨ha, q⟩
      · exact Nat.max_le.mpr ⟨ha, by omega⟩
    refine sX2_leftAtMost_5 t _ _ _ _ _ _ _ IL (zdec (fun z => absurd z (nI_nlt (a := 20) (by omega) (by omega))) (fun _ => ?_))
    have := l_left18 hI hC ho hn (by omega) ha (fun w5 w6 w7 => l_left5 hI hC ho hn m (v + 1) _ w5 w6 w7 (by omega) hb hQ) 21 0 w7 (by omega)
    have e0 : (if yfs X k v then yT (yfs X k) (yg0 X n) (yg0 X n v) 0 else 0) = 0 := by split <;> rfl
    rw [e0] at this
    exact this
theorem c_left {n : Nat} (hI : yI X) (hC : yC t X IL) (ho : yope X.H = true) (hn : n ≤ 6) (hQ : Q (zFx t, IL) (some (.int (nI (yLn X k n))))) : zcall xs (d + 2) 33 (zFx t, IL) [.ref 128, .int (nI n), .int (yset (yfs X k) 21)] Q :=
  sX2_leftAtMost t _ _ IL (l_left5 hI hC ho hn 21 0 0 _ _ _ (by omega) (by omega) hQ)
theorem l_ask {w x2 F : Int32} {L : Nat → Nat} (hL : ∀ n, L n ≤ 21) (hc : ∀ n (Q' : zQ), n ≤ 6 → Q' (zFx t, IL) (some (.int (nI (L n)))) → zcall xs (d + 2) 33 (zFx t, IL) [.ref 128, .int (nI n), .int F] Q') : ∀ (m n b : Nat) (w7 : Value), n + m = 7 → b ≤ 6 → Q (zFx t, IL) (some (.int (if w = 0 then nI (yfo (yak L) m n b) else nI (L (yfo (yak L) m n b))))) → gX7_ask xs (d + 2) Q 41 [.ref 0, .int w, .int x2, .int F, .int (nI b), .int (nI (L b)), .int (nI n), w7] [] (zFx t, IL)
  | 0, n, b, w7, hm, hb, hQ => by
    have e : n = 7 := by omega
    subst e
    unfold yfo at hQ
    refine sX7_ask_41 t _ _ _ _ _ _ _ IL (zdec (fun _ => zdec (fun z => ?_) (fun z => ?_)) (fun z => absurd (by decide) z))
    · rw [if_pos z] at hQ; exact hQ
    · rw [if_neg z] at hQ; exact hQ
  | m + 1, n, b, w7, hm, hb, hQ => by
    unfold yfo at hQ
    have l1 := hL n
    have l2 := hL b
    refine sX7_ask_41 t _ _ _ _ _ _ _ IL (zdec (fun z => absurd z (nI_nlt (a := 6) (by omega) (by omega))) (fun _ => hc n _ (by omega) (kI (zdec (fun z => ?_) (fun z => ?_)))))
    · have e : yak L n b = n := by unfold yak; rw [if_pos ((nI_ltI (by omega) (by omega)).mp z)]
      rw [e] at hQ
      rw [nI_1]
      exact l_ask hL hc m (n + 1) n _ (by omega) (by omega) hQ
    · have e : yak L n b = b := by unfold yak; rw [if_neg (fun q => z ((nI_ltI (by omega) (by omega)).mpr q))]
      rw [e] at hQ
      rw [nI_1]
      exact l_ask hL hc m (n + 1) b _ (by omega) hb hQ
theorem yfs_open (h : ¬ ycn (yfs X k) 21 = 0) : yope X.H = true := by
  cases e : yope X.H
  · exact absurd (ycn_f 21 (fun i _ => by unfold yfs; rw [e]; rfl)) h
  · rfl
theorem c_ask {w : Int32} (hI : yI X) (hC : yC t X IL) (hQ : Q (zFx t, IL) (some (.int (r_ask X w k)))) : zcall xs (d + 3) 134 (zFx t, IL) [.ref 0, .int w, .int k] Q := by
  unfold r_ask at hQ
  refine sX7_ask t _ _ IL (c_fitting hI hC (kI (zdec (fun z => ?_) (fun z => ?_))))
  · rw [if_pos (ycn_f 21 (fun i hi => yset_0 (by decide) z i hi))] at hQ
    exact hQ
  · have nz : ¬ ycn (yfs X k) 21 = 0 := fun q => z (yset_f 21 (ycn_0 _ 21 q))
    rw [if_neg nz] at hQ
    have ho := yfs_open nz
    refine zdec (fun z1 => ?_) (fun z1 => zdec (fun z2 => ?_) (fun z2 => c_left (n := 0) hI hC ho (by omega) (kI ?_)))
    · rw [if_neg (fun e => by rw [e] at z1; exact absurd z1 (by decide)), if_neg (fun e => by rw [e] at z1; exact absurd z1 (by decide))] at hQ
      exact hQ
    · rw [if_neg (fun e => by rw [e] at z2; exact absurd z2 (by decide)), if_neg (fun e => by rw [e] at z2; exact absurd z2 (by decide))] at hQ
      exact hQ
    · refine l_ask (L := yLn X k) (fun n => yL_le _ _) (fun n Q' hn h => c_left hI hC ho hn h) 6 1 0 _ (by omega) (by omega) ?_
      rcases y_01 z1 z2 with e | e
      · rw [if_pos e] at hQ ⊢
        exact hQ
      · rw [if_neg (by rw [e]; decide), if_pos e] at hQ
        rw [if_neg (by rw [e]; decide)]
        exact hQ
end FITS
