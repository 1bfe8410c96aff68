/-! feed, end -/
def yby (x : Int32) (k : Nat) : Int32 := (x >>> (nI k &&& 31)) &&& 255
theorem b_255 : ∀ i, i < 32 → bt 255 i = decide (i < 8) := by decide +kernel
theorem s_uu : ∀ n, n < 32 → (((nI n).toUInt32 &&& Int32.toUInt32 31).toBitVec % 32).toNat = n := by decide +kernel
theorem b_us (n : Nat) (hn : n < 32) (x : Int32) (i : Nat) : bt ((x.toUInt32 >>> ((nI n).toUInt32 &&& Int32.toUInt32 31)).toInt32) i = bt x (n + i) := by
  have := pk_ushr x (nI n) n (s_uu n hn)
  show (BitVec.toNat _).testBit i = (BitVec.toNat _).testBit (n + i)
  rw [this, Nat.testBit_div_two_pow, Nat.add_comm]
theorem y_i8 {x y : Int32} (h : ∀ i, i < 8 → bt x i = bt y i) : x.toInt8 = y.toInt8 := by
  apply Int8.toBitVec_inj.1
  apply BitVec.eq_of_getLsbD_eq
  intro i hi
  show (x.toBitVec.signExtend 8).getLsbD i = (y.toBitVec.signExtend 8).getLsbD i
  rw [BitVec.getLsbD_signExtend, BitVec.getLsbD_signExtend, decide_eq_true hi, Bool.true_and, Bool.true_and, if_pos (by omega), if_pos (by omega)]
  exact h i hi
theorem y_put (x : Int32) {k : Nat} (hk : k ≤ 24) : vp_nar .byte ((Int32.toInt8 ((Int32.toUInt32 x >>> (Int32.toUInt32 (nI k) &&& Int32.toUInt32 31)).toInt32)).toInt32) = ysx (yby x k) := by
  rw [pk_vb]
  unfold ysx yby
  congr 1
  refine y_i8 (fun i hi => ?_)
  rw [b_us k (by omega), b_and, b_255 i (by omega), decide_eq_true hi, Bool.and_true, b_sshr k (by omega) x (by omega), if_pos (by omega)]
theorem yby_in (x : Int32) (k : Nat) : yin (yby x k) 0 255 := by
  obtain ⟨n, hn, e⟩ := y_small (x := yby x k) (w := 8) (fun i hi => by
    rcases Nat.lt_or_ge i 32 with h | h
    · unfold yby
      rw [b_and, b_255 i h, decide_eq_false (by omega), Bool.and_false]
    · exact b_big h)
  rw [e]
  unfold yin
  have : (2 : Nat) ^ 8 = 256 := rfl
  rw [nI_toInt (by omega)]
  omega
def yfd (T : Nat → Int32) (n : Nat) (x : Int32) (j : Nat) : Int32 := if j = n + 3 then yby x 0 else if j = n + 2 then yby x 8 else if j = n + 1 then yby x 16 else if j = n then yby x 24 else T j
def yTx (X : yX) (len' : Nat) (tp' : Nat → Int32) (fau' pla' : Int32) : yX := yX.mk X.H X.S len' tp' fau' pla' X.don X.und X.hi X.lai X.lie X.cnt X.tim X.sof X.sno X.sis X.sto X.sun X.bxf X.bx
def yfeed (X : yX) (a b c e f : Int32) : Nat → Int32 := yfd (yfd (yfd (yfd (yfd X.tp X.len a) (X.len + 4) b) (X.len + 8) c) (X.len + 12) e) (X.len + 16) f
def x_feed (X : yX) (a b c e f : Int32) : yX := if X.len ≤ 1580 then yTx X (X.len + 20) (yfeed X a b c e f) X.fau X.pla else X
def r_feed (X : yX) : Int32 := if X.len ≤ 1580 then nI (X.len + 20) else -1
def yeb (X : yX) (n : Int32) : Bool := !decide (n < 0) && !decide (nI X.len < n)
def x_end (X : yX) (n : Int32) : yX := if yeb X n then yTx X n.toNatClampNeg X.tp X.fau X.pla else X
def r_end (X : yX) (n : Int32) : Int32 := if yeb X n then n else -1
section FEED
variable {xs : List Int32} {d : Nat} {Q : zQ} {t : Bool} {IL A B : zIL} {X : yX}
theorem yC.tpe (h : yC t X A) {len' : Nat} {tp' : Nat → Int32} {fau' pla' : Int32} (f : ∀ c, c < 145 → c ≠ 1 → c ≠ 2 → B.1 c = A.1 c) (f2 : B.2 5 = A.2 5) (hl : B.1 1 0 = nI len') (ht : ∀ j, j < len' → B.1 2 j = ysx (tp' j)) (hf : B.1 1 1 = fau') (hp : B.1 1 2 = pla') : yC t (yTx X len' tp' fau' pla') B := by
  have g : ∀ c, c < 145 → c ≠ 1 → c ≠ 2 → ∀ j, B.1 c j = A.1 c j := fun c a b e j => by rw [f c a b e]
  have zl := zH_le t
  have zg := zH_ge t
  obtain ⟨o, o1, o2, o3⟩ := h.hist
  refine yC.mk (h.H.fr (fun i _ _ _ => f _ (by omega) (by omega) (by omega))) (h.S.fr (f 22 (by decide) (by decide) (by decide)) (f 23 (by decide) (by decide) (by decide))) hl ht hf hp ?_ ?_ ⟨o, o1, ?_, fun a ha => ?_⟩ ?_ ?_ ?_ ?_ ?_ ?_ ?_ ?_ ?_ ?_ ?_ ?_ (fun j hj hx => ?_) ?_
  · rw [g 26 (by decide) (by decide) (by decide)]; exact h.don
  · rw [g 26 (by decide) (by decide) (by decide)]; exact h.und
  · rw [g 26 (by decide) (by decide) (by decide)]; exact o2
  · have hm : (o + a) % 40 < 40 := Nat.mod_lt _ (by decide)
    exact (o3 a ha).fr (f _ (by omega) (by omega) (by omega)) (f _ (by omega) (by omega) (by omega))
  · rw [g 0 (by decide) (by decide) (by decide)]; exact h.lai
  · intro j hj; rw [g 136 (by decide) (by decide) (by decide)]; exact h.lie j hj
  · rw [g 128 (by decide) (by decide) (by decide)]; exact h.cnt
  · rw [g 128 (by decide) (by decide) (by decide)]; exact h.tim
  · rw [g 128 (by decide) (by decide) (by decide)]; exact h.ope
  · intro j hj; rw [g 129 (by decide) (by decide) (by decide)]; exact h.sof j hj
  · intro j hj; rw [g 130 (by decide) (by decide) (by decide)]; exact h.sno j hj
  · intro j hj; rw [g 131 (by decide) (by decide) (by decide)]; exact h.sis j hj
  · intro j hj; rw [g 132 (by decide) (by decide) (by decide)]; exact h.sto j hj
  · intro j hj; rw [g 133 (by decide) (by decide) (by decide)]; exact h.sun j hj
  · intro a v n hv hn; rw [g 134 (by decide) (by decide) (by decide)]; exact h.trk a v n hv hn
  · intro b hb; rw [g 0 (by decide) (by decide) (by decide)]; exact h.bxm b hb
  · exact (h.bx j hj hx).fr (f _ (by omega) (by omega) (by omega)) (f _ (by omega) (by omega) (by omega))
  · intro w hw; rw [f2]; exact h.cod w hw
theorem yM.tpe (h : yM X A) {len' : Nat} {tp' : Nat → Int32} {fau' pla' : Int32} (f : ∀ c j, 145 ≤ c → c ≠ 146 → ¬ (c = 145 ∧ (j = 1 ∨ j = 2 ∨ j = 3)) → B.1 c j = A.1 c j) (hl : B.1 145 1 = nI len') (ht : ∀ j, j < len' → B.1 146 j = tp' j) (hf : B.1 145 2 = fau') (hp : B.1 145 3 = pla') : yM (yTx X len' tp' fau' pla') B := by
  refine yM.mk (h.H.fr (fun c j z => ?_)) ?_ ?_ hl ht hf hp ?_ ?_ ?_ ?_ ?_ ?_ ?_ ?_ ?_ ?_ ?_ ?_ ?_ ?_
  · unfold yMHs at z
    simp only [Bool.or_eq_true, Bool.and_eq_true, beq_iff_eq] at z
    exact f c j (by omega) (by omega) (by omega)
  · intro j hj; rw [f 161 j (by decide) (by decide) (by omega)]; exact h.S j hj
  · rw [f 145 27 (by decide) (by decide) (by decide)]; exact h.m27
  · rw [f 145 57 (by decide) (by decide) (by decide)]; exact h.don
  · rw [f 145 58 (by decide) (by decide) (by decide)]; exact h.und
  · intro a j ha hj; rw [f 163 _ (by decide) (by decide) (by omega)]; exact h.hist a j ha hj
  · rw [f 145 62 (by decide) (by decide) (by decide)]; exact h.lai
  · intro j hj; rw [f 165 j (by decide) (by decide) (by omega)]; exact h.lie j hj
  · rw [f 145 71 (by decide) (by decide) (by decide)]; exact h.cnt
  · rw [f 145 72 (by decide) (by decide) (by decide)]; exact h.tim
  · intro j hj; rw [f 169 j (by decide) (by decide) (by omega)]; exact h.sof j hj
  · intro j hj; rw [f 170 j (by decide) (by decide) (by omega)]; exact h.sno j hj
  · intro j hj; rw [f 171 j (by decide) (by decide) (by omega)]; exact h.sto j hj
  · intro j hj; rw [f 172 j (by decide) (by decide) (by omega)]; exact h.sun j hj
  · intro j hj; rw [f 173 j (by decide) (by decide) (by omega)]; exact h.sis j hj
  · intro b hb; rw [f 177 b (by decide) (by decide) (by omega)]; exact h.bxm b hb
  · intro b j hb hx hj; rw [f 178 _ (by decide) (by decide) (by omega)]; exact h.bx b j hb hx hj
/-- one byte -/
theorem l_put1 {x : Int32} {k n : Nat} (hk : k ≤ 24) (hn : n < 1600) (h0 : IL.1 1 0 = nI n) (hQ : gX5_put xs d Q 3 [.ref 1, .int x, .int (nI k + (-8))] [] (zFx t, zwi (zwi IL 2 n (ysx (yby x k))) 1 0 (nI (n + 1)))) : gX5_put xs d Q 3 [.ref 1, .int x, .int (nI k)] [] (zFx t, IL) := by
  refine sX5_put_3 t _ _ IL (zdec (fun z => absurd z (nI_pos (by omega))) (fun _ => ?_))
  rw [h0]
  refine zdec (fun _ => zix_n hn (by decide) ?_) (fun z => absurd (nI_lt (b := 1600) hn (by omega)) z)
  rw [ycl (by omega), y_put x hk, zwi_ne (show 1 ≠ 2 by decide), h0, nI_1]
  exact hQ
theorem c_put {x : Int32} {n : Nat} {T : Nat → Int32} (hn : n + 4 ≤ 1600) (h0 : IL.1 1 0 = nI n) (hT : ∀ j, j < n → IL.1 2 j = ysx (T j)) (hQ : ∀ IL', (∀ c j, c ≠ 2 → ¬ (c = 1 ∧ j = 0) → IL'.1 c j = IL.1 c j) → IL'.2 = IL.2 → IL'.1 1 0 = nI (n + 4) → (∀ j, j < n + 4 → IL'.1 2 j = ysx (yfd T n x j)) → Q (zFx t, IL') none) : zcall xs (d + 1) 55 (zFx t, IL) [.ref 1, .int x] Q := by
  have w0 : ∀ (M : zIL) v, (zwi M 1 0 v).1 1 0 = v := fun M v => by rw [zwi_at, if_pos rfl]
  refine sX5_put t _ IL (l_put1 (k := 24) (by decide) (by omega) h0 ?_)
  refine l_put1 (k := 16) (by decide) (by omega) (w0 _ _) ?_
  refine l_put1 (k := 8) (by decide) (by omega) (w0 _ _) ?_
  refine l_put1 (k := 0) (by decide) (by omega) (w0 _ _) ?_
  refine sX5_put_3 t _ _ _ (zdec (fun _ => ?_) (fun z => absurd (by decide) z))
  refine hQ _ (fun c j h1 h2 => ?_) rfl (w0 _ _) (fun j hj => ?_)
  · by_cases e : c = 1
    · subst e
      rw [zwi_at, if_neg (by omega), zwi_ne (by decide), zwi_at, if_neg (by omega), zwi_ne (by decide), zwi_at, if_neg (by omega), zwi_ne (by decide), zwi_at, if_neg (by omega), zwi_ne (by decide)]
    · rw [zwi_ne e, zwi_ne h1, zwi_ne e, zwi_ne h1, zwi_ne e, zwi_ne h1, zwi_ne e, zwi_ne h1]
  · rw [zwi_ne (by decide), zwi_at, zwi_ne (by decide), zwi_at, zwi_ne (by decide), zwi_at, zwi_ne (by decide), zwi_at]
    unfold yfd
    by_cases e3 : j = n + 3
    · rw [if_pos (by omega), if_pos e3]
    · rw [if_neg (by omega), if_neg e3]
      by_cases e2 : j = n + 2
      · rw [if_pos (by omega), if_pos e2]
      · rw [if_neg (by omega), if_neg e2]
        by_cases e1 : j = n + 1
        · rw [if_pos (by omega), if_pos e1]
        · rw [if_neg (by omega), if_neg e1]
          by_cases e0 : j = n
          · rw [if_pos e0, if_pos e0]
          · rw [if_neg e0, if_neg e0]
            exact hT j (by omega)
theorem y_1580 {n : Nat} (hn : n ≤ 1600) : (1600 : Int32) < nI n + 20 ↔ ¬ n ≤ 1580 := by
  rw [show (20 : Int32) = nI 20 from rfl, nI_add, show (1600 : Int32) = nI 1600 from rfl, nI_ltI (by omega) (by omega)]
  omega
theorem c_feed {a b c e f : Int32} (hI : yI X) (hC : yC t X IL) (hQ : ∀ IL', yC t (x_feed X a b c e f) IL' → (∀ c, 145 ≤ c → IL'.1 c = IL.1 c) → IL'.2 = IL.2 → Q (zFx t, IL') (some (.int (r_feed X)))) : zcall xs (d + 2) 87 (zFx t, IL) [.ref 0, .int a, .int b, .int c, .int e, .int f] Q := by
  have l16 := hI.len
  unfold x_feed r_feed at hQ
  refine sX7_feed t _ _ _ _ _ IL ?_
  rw [hC.len]
  refine zdec (fun z => ?_) (fun z => ?_)
  · have h := (y_1580 l16).mp z
    rw [if_neg h, if_neg h] at hQ
    exact hQ IL hC (fun _ _ => rfl) rfl
  · have h : X.len ≤ 1580 := Decidable.byContradiction (fun q => z ((y_1580 l16).mpr q))
    rw [if_pos h, if_pos h] at hQ
    refine c_put (by omega) hC.len hC.tape (fun I1 k1 l1 n1 t1 => kV (c_put (by omega) n1 t1 (fun I2 k2 l2 n2 t2 => kV (c_put (by omega) n2 t2 (fun I3 k3 l3 n3 t3 => kV (c_put (by omega) n3 t3 (fun I4 k4 l4 n4 t4 => kV (c_put (by omega) n4 t4 (fun I5 k5 l5 n5 t5 => kV ?_)))))))))
    have kk : ∀ c j, c ≠ 2 → ¬ (c = 1 ∧ j = 0) → I5.1 c j = IL.1 c j := fun c j h1 h2 => by rw [k5 c j h1 h2, k4 c j h1 h2, k3 c j h1 h2, k2 c j h1 h2, k1 c j h1 h2]
    have kl : I5.2 = IL.2 := by rw [l5, l4, l3, l2, l1]
    rw [n5]
    refine hQ I5 (hC.tpe (fun c h1 h2 h3 => funext (fun j => kk c j h3 (by omega))) (by rw [kl]) n5 t5 (by rw [kk 1 1 (by decide) (by decide)]; exact hC.fau) (by rw [kk 1 2 (by decide) (by decide)]; exact hC.pla)) (fun c hc => funext (fun j => kk c j (by omega) (by omega))) kl
theorem l_four1 {x : Int32} {k n : Nat} (hk : k ≤ 24) (hn : n < 1600) (h0 : IL.1 145 1 = nI n) (hQ : gX8_four xs d Q 3 [.ref 145, .int x, .int (nI k + (-8))] [] (zFx t, zwi (zwi IL 146 n (yby x k)) 145 1 (nI (n + 1)))) : gX8_four xs d Q 3 [.ref 145, .int x, .int (nI k)] [] (zFx t, IL) := by
  refine sX8_four_3 t _ _ IL (zdec (fun z => absurd z (nI_pos (by omega))) (fun _ => ?_))
  rw [h0]
  refine zix_n hn (by decide) ?_
  rw [ycl (by omega), zwi_ne (show 145 ≠ 146 by decide), h0, nI_1]
  exact hQ
theorem c_four {x : Int32} {n : Nat} {T : Nat → Int32} (hn : n + 4 ≤ 1600) (h0 : IL.1 145 1 = nI n) (hT : ∀ j, j < n → IL.1 146 j = T j) (hQ : ∀ IL', (∀ c j, c ≠ 146 → ¬ (c = 145 ∧ j = 1) → IL'.1 c j = IL.1 c j) → IL'.2 = IL.2 → IL'.1 145 1 = nI (n + 4) → (∀ j, j < n + 4 → IL'.1 146 j = yfd T n x j) → Q (zFx t, IL') none) : zcall xs (d + 1) 155 (zFx t, IL) [.ref 145, .int x] Q := by
  have w0 : ∀ (M : zIL) v, (zwi M 145 1 v).1 145 1 = v := fun M v => by rw [zwi_at, if_pos rfl]
  refine sX8_four t _ IL (l_four1 (k := 24) (by decide) (by omega) h0 ?_)
  refine l_four1 (k := 16) (by decide) (by omega) (w0 _ _) ?_
  refine l_four1 (k := 8) (by decide) (by omega) (w0 _ _) ?_
  refine l_four1 (k := 0) (by decide) (by omega) (w0 _ _) ?_
  refine sX8_four_3 t _ _ _ (zdec (fun _ => ?_) (fun z => absurd (by decide) z))
  refine hQ _ (fun c j h1 h2 => ?_) rfl (w0 _ _) (fun j hj => ?_)
  · by_cases e : c = 145
    · subst e
      rw [zwi_at, if_neg (by omega), zwi_ne (by decide), zwi_at, if_neg (by omega), zwi_ne (by decide), zwi_at, if_neg (by omega), zwi_ne (by decide), zwi_at, if_neg (by omega), zwi_ne (by decide)]
    · rw [zwi_ne e, zwi_ne h1, zwi_ne e, zwi_ne h1, zwi_ne e, zwi_ne h1, zwi_ne e, zwi_ne h1]
  · rw [zwi_ne (by decide), zwi_at, zwi_ne (by decide), zwi_at, zwi_ne (by decide), zwi_at, zwi_ne (by decide), zwi_at]
    unfold yfd
    by_cases e3 : j = n + 3
    · rw [if_pos (by omega), if_pos e3]
    · rw [if_neg (by omega), if_neg e3]
      by_cases e2 : j = n + 2
      · rw [if_pos (by omega), if_pos e2]
      · rw [if_neg (by omega), if_neg e2]
        by_cases e1 : j = n + 1
        · rw [if_pos (by omega), if_pos e1]
        · rw [if_neg (by omega), if_neg e1]
          by_cases e0 : j = n
          · rw [if_pos e0, if_pos e0]
          · rw [if_neg e0, if_neg e0]
            exact hT j (by omega)
theorem m_feed {a b c e f : Int32} (hI : yI X) (hM : yM X IL) (hQ : ∀ IL', yM (x_feed X a b c e f) IL' → (∀ c, c < 145 → IL'.1 c = IL.1 c) → IL'.2 = IL.2 → Q (zFx t, IL') (some (.int (r_feed X)))) : zcall xs (d + 2) 154 (zFx t, IL) [.ref 145, .int a, .int b, .int c, .int e, .int f] Q := by
  have l16 := hI.len
  unfold x_feed r_feed at hQ
  refine sX8_feed t _ _ _ _ _ IL ?_
  rw [hM.len]
  refine zdec (fun z => ?_) (fun z => ?_)
  · have h := (y_1580 l16).mp z
    rw [if_neg h, if_neg h] at hQ
    exact hQ IL hM (fun _ _ => rfl) rfl
  · have h : X.len ≤ 1580 := Decidable.byContradiction (fun q => z ((y_1580 l16).mpr q))
    rw [if_pos h, if_pos h] at hQ
    refine c_four (by omega) hM.len hM.tape (fun I1 k1 l1 n1 t1 => kV (c_four (by omega) n1 t1 (fun I2 k2 l2 n2 t2 => kV (c_four (by omega) n2 t2 (fun I3 k3 l3 n3 t3 => kV (c_four (by omega) n3 t3 (fun I4 k4 l4 n4 t4 => kV (c_four (by omega) n4 t4 (fun I5 k5 l5 n5 t5 => kV ?_)))))))))
    have kk : ∀ c j, c ≠ 146 → ¬ (c = 145 ∧ j = 1) → I5.1 c j = IL.1 c j := fun c j h1 h2 => by rw [k5 c j h1 h2, k4 c j h1 h2, k3 c j h1 h2, k2 c j h1 h2, k1 c j h1 h2]
    have kl : I5.2 = IL.2 := by rw [l5, l4, l3, l2, l1]
    rw [n5]
    refine hQ I5 (hM.tpe (fun c j h1 h2 h3 => kk c j h2 (by omega)) n5 t5 (by rw [kk 145 2 (by decide) (by decide)]; exact hM.fau) (by rw [kk 145 3 (by decide) (by decide)]; exact hM.pla)) (fun c hc => funext (fun j => kk c j (by omega) (by omega))) kl
theorem c_end {n : Int32} (hI : yI X) (hC : yC t X IL) (hQ : ∀ IL', yC t (x_end X n) IL' → (∀ c, 145 ≤ c → IL'.1 c = IL.1 c) → IL'.2 = IL.2 → Q (zFx t, IL') (some (.int (r_end X n)))) : zcall xs (d + 1) 88 (zFx t, IL) [.ref 0, .int n] Q := by
  have l16 := hI.len
  unfold x_end r_end at hQ
  have no : yeb X n = false → Q (zFx t, IL) (some (.int (-1))) := fun h => by
    rw [h] at hQ
    exact hQ IL hC (fun _ _ => rfl) rfl
  refine sX7_end t _ IL (zdec (fun z => no (by unfold yeb; rw [decide_eq_true z]; rfl)) (fun z => ?_))
  rw [hC.len]
  refine zdec (fun w => no (by unfold yeb; rw [decide_eq_true w, Bool.not_true, Bool.and_false])) (fun w => ?_)
  have hy : yeb X n = true := by unfold yeb; rw [decide_eq_false z, decide_eq_false w]; rfl
  rw [hy, if_pos rfl, if_pos rfl] at hQ
  obtain ⟨m, hm, rfl⟩ := y_nat (n := X.len + 1) z (by
    have a1 : ¬ (nI X.len).toInt < n.toInt := fun q => w (Int32.lt_iff_toInt_lt.mpr q)
    rw [nI_toInt (by omega)] at a1
    rw [Int32.lt_iff_toInt_lt, nI_toInt (by omega)]
    omega) (by omega)
  rw [ycl (by omega)] at hQ
  refine hQ _ (hC.tpe (fun c h1 h2 h3 => zwi_ne h2) rfl (by rw [zwi_at, if_pos rfl]) (fun j hj => by rw [zwi_ne (by decide)]; exact hC.tape j (by omega)) (by rw [zwi_at, if_neg (by decide)]; exact hC.fau) (by rw [zwi_at, if_neg (by decide)]; exact hC.pla)) (fun c hc => zwi_ne (by omega)) rfl
theorem m_end {n : Int32} (hI : yI X) (hM : yM X IL) (hQ : ∀ IL', yM (x_end X n) IL' → (∀ c, c < 145 → IL'.1 c = IL.1 c) → IL'.2 = IL.2 → Q (zFx t, IL') (some (.int (r_end X n)))) : zcall xs (d + 1) 156 (zFx t, IL) [.ref 145, .int n] Q := by
  have l16 := hI.len
  unfold x_end r_end at hQ
  have no : yeb X n = false → Q (zFx t, IL) (some (.int (-1))) := fun h => by
    rw [h] at hQ
    exact hQ IL hM (fun _ _ => rfl) rfl
  refine sX8_end t _ IL (zdec (fun z => no (by unfold yeb; rw [decide_eq_true z]; rfl)) (fun z => ?_))
  rw [hM.len]
  refine zdec (fun w => no (by unfold yeb; rw [decide_eq_true w, Bool.not_true, Bool.and_false])) (fun w => ?_)
  have hy : yeb X n = true := by unfold yeb; rw [decide_eq_false z, decide_eq_false w]; rfl
  rw [hy, if_pos rfl, if_pos rfl] at hQ
  obtain ⟨m, hm, rfl⟩ := y_nat (n := X.len + 1) z (by
    have a1 : ¬ (nI X.len).toInt < n.toInt := fun q => w (Int32.lt_iff_toInt_lt.mpr q)
    rw [nI_toInt (by omega)] at a1
    rw [Int32.lt_iff_toInt_lt, nI_toInt (by omega)]
    omega) (by omega)
  rw [ycl (by omega)] at hQ
  have kc : ∀ c j, ¬ (c = 145 ∧ j = 1) → (zwi IL 145 1 (nI m)).1 c j = IL.1 c j := fun c j h => by
    by_cases q : c = 145
    · subst q; rw [zwi_at, if_neg (by omega)]
    · rw [zwi_ne q]
  refine hQ _ (hM.tpe (fun c j h1 h2 h3 => kc c j (by omega)) (by rw [zwi_at, if_pos rfl]) (fun j hj => by rw [kc 146 j (by omega)]; exact hM.tape j (by omega)) (by rw [kc 145 2 (by omega)]; exact hM.fau) (by rw [kc 145 3 (by omega)]; exact hM.pla)) (fun c hc => zwi_ne (by omega)) rfl
end FEED
