/-! acts: the model's side -/
theorem y_11 : ∀ e, e ≤ 40 → 11 * nI e = nI (11 * e) := by decide +kernel
theorem y_11a (i : Nat) : 11 + nI i = nI (11 + i) := nI_add 11 i
section MACTS
variable {xs : List Int32} {d : Nat} {Q : zQ} {t : Bool} {IL A B : zIL} {X : yX} {fa : Int32}
theorem yM.gen (h : yM X A) (f : ∀ c j, 145 ≤ c → yms c j = false → c ≠ 161 → c ≠ 163 → ¬ (c = 145 ∧ (j = 57 ∨ j = 58)) → B.1 c j = A.1 c j) (f27 : B.1 145 27 = -1) {S' : Nat → Int32} {don' und' : Nat} {hi' : Nat → Nat → Int32} (hS : yMS 161 S' B) (hd : B.1 145 57 = nI don') (hu : B.1 145 58 = nI und') (hh : ∀ a j, a < don' + und' → j < 11 → B.1 163 (11 * a + j) = hi' a j) : yM (yW X S' don' und' hi') B := by
  refine yM.mk ?_ hS f27 ?_ ?_ ?_ ?_ hd hu hh ?_ ?_ ?_ ?_ ?_ ?_ ?_ ?_ ?_ ?_ ?_
  · refine h.H.fr (fun c j z => ?_)
    unfold yMHs at z
    simp only [Bool.or_eq_true, Bool.and_eq_true, beq_iff_eq] at z
    refine f c j (by omega) ?_ (by omega) (by omega) (by omega)
    unfold yms
    simp only [Bool.or_eq_false_iff, Bool.and_eq_false_iff, beq_eq_false_iff_ne]
    omega
  · rw [f 145 1 (by decide) rfl (by decide) (by decide) (by decide)]; exact h.len
  · intro j hj; rw [f 146 j (by decide) rfl (by decide) (by decide) (by omega)]; exact h.tape j hj
  · rw [f 145 2 (by decide) rfl (by decide) (by decide) (by decide)]; exact h.fau
  · rw [f 145 3 (by decide) rfl (by decide) (by decide) (by decide)]; exact h.pla
  · rw [f 145 62 (by decide) rfl (by decide) (by decide) (by decide)]; exact h.lai
  · intro j hj; rw [f 165 j (by decide) rfl (by decide) (by decide) (by omega)]; exact h.lie j hj
  · rw [f 145 71 (by decide) rfl (by decide) (by decide) (by decide)]; exact h.cnt
  · rw [f 145 72 (by decide) rfl (by decide) (by decide) (by decide)]; exact h.tim
  · intro j hj; rw [f 169 j (by decide) rfl (by decide) (by decide) (by omega)]; exact h.sof j hj
  · intro j hj; rw [f 170 j (by decide) rfl (by decide) (by decide) (by omega)]; exact h.sno j hj
  · intro j hj; rw [f 171 j (by decide) rfl (by decide) (by decide) (by omega)]; exact h.sto j hj
  · intro j hj; rw [f 172 j (by decide) rfl (by decide) (by decide) (by omega)]; exact h.sun j hj
  · intro j hj; rw [f 173 j (by decide) rfl (by decide) (by decide) (by omega)]; exact h.sis j hj
  · intro b hb; rw [f 177 b (by decide) rfl (by decide) (by decide) (by omega)]; exact h.bxm b hb
  · intro b j hb hx hj; rw [f 178 _ (by decide) rfl (by decide) (by decide) (by omega)]; exact h.bx b j hb hx hj
theorem l_act51 {e : Nat} {S : Nat → Int32} (he : e < 40) (h57 : A.1 145 57 = nI e) (hS : yMS 161 S A) (hQ : ∀ IL', zfr [163] A IL' → (∀ j, j < 11 → IL'.1 163 (11 * e + j) = S j) → (∀ j, j < 11 * e → IL'.1 163 j = A.1 163 j) → zcall xs d 200 (zFx t, zwi (zwi IL' 145 57 (nI (e + 1))) 145 58 0) [.ref 145] (zkV (zFx t) fun IL1 => Q (zFx t, IL1) none)) : ∀ (k i : Nat) (IL : zIL), i + k = 11 → zfr [163] A IL → (∀ j, j < i → IL.1 163 (11 * e + j) = S j) → (∀ j, j < 11 * e → IL.1 163 j = A.1 163 j) → gX8_act xs d Q 51 [.ref 145, .int (nI i)] [] (zFx t, IL)
  | 0, i, IL, hi, fr, h1, h2 => by
    have e57 : IL.1 145 57 = nI e := by rw [fr.1 145 (by decide)]; exact h57
    refine sX8_act_51 t _ IL (zd_f (n := 11) rfl (by omega) (by omega) ?_)
    rw [e57, nI_1]
    exact hQ IL fr (fun j hj => h1 j (by omega)) h2
  | k + 1, i, IL, hi, fr, h1, h2 => by
    have e57 : IL.1 145 57 = nI e := by rw [fr.1 145 (by decide)]; exact h57
    refine sX8_act_51 t _ IL (zd_t (n := 11) rfl (by omega) (by omega) (zix_n (by omega) (by omega) ?_))
    rw [e57, y_11 e (by omega), nI_add]
    refine zix_n (by omega) (by omega) ?_
    rw [ycl (by omega), ycl (by omega), nI_1, fr.1 161 (by decide), hS i (by omega)]
    refine l_act51 he h57 hS hQ k (i + 1) _ (by omega) (zfr_tr fr (zfr_wi (by decide))) (fun j hj => ?_) (fun j hj => ?_)
    · rw [zwi_at]
      by_cases q : j = i
      · rw [if_pos (by omega), q]
      · rw [if_neg (by omega)]; exact h1 j (by omega)
    · rw [zwi_at, if_neg (by omega)]; exact h2 j hj
theorem l_act11 (hQ : ∀ IL', zfr [163] A IL' → (∀ j, j < 429 → IL'.1 163 j = A.1 163 (11 + j)) → gX8_act xs d Q 51 [.ref 145, .int 0] [] (zFx t, zwi IL' 145 57 (IL'.1 145 57 - 1))) : ∀ (k i : Nat) (IL : zIL), i + k = 429 → zfr [163] A IL → (∀ j, j < i → IL.1 163 j = A.1 163 (11 + j)) → (∀ j, i ≤ j → IL.1 163 j = A.1 163 j) → gX8_act xs d Q 11 [.ref 145, .int (nI i)] [] (zFx t, IL)
  | 0, i, IL, hi, fr, h1, h2 => sX8_act_11 t _ IL (zd_f (n := 429) rfl (by omega) (by omega) (hQ IL fr (fun j hj => h1 j (by omega))))
  | k + 1, i, IL, hi, fr, h1, h2 => by
    refine sX8_act_11 t _ IL (zd_t (n := 429) rfl (by omega) (by omega) ?_)
    rw [y_11a]
    refine zix_n (by omega) (by omega) (zix_n (by omega) (by omega) ?_)
    rw [ycl (by omega), ycl (by omega), nI_1, h2 (11 + i) (by omega)]
    refine l_act11 hQ k (i + 1) _ (by omega) (zfr_tr fr (zfr_wi (by decide))) (fun j hj => ?_) (fun j hj => ?_)
    · rw [zwi_at]
      by_cases q : j = i
      · rw [if_pos q, q]
      · rw [if_neg q]; exact h1 j (by omega)
    · rw [zwi_at, if_neg (by omega)]; exact h2 j (by omega)
theorem c_act (hI : yI X) (hM : yM X IL) (hQ : ∀ IL', yM (yW X X.S (ydk X) 0 (yhk X)) IL' → yMS 162 X.S IL' → (∀ c, c < 145 → IL'.1 c = IL.1 c) → IL'.2 = IL.2 → Q (zFx t, IL') none) : zcall xs (d + 2) 215 (zFx t, IL) [.ref 145] Q := by
  have dn := hI.dn
  -- behind the shift
  have body : ∀ (M : zIL) (e : Nat), e < 40 → M.1 145 57 = nI e → (∀ c j, c ≠ 163 → ¬ (c = 145 ∧ j = 57) → M.1 c j = IL.1 c j) → M.2 = IL.2 → (∀ a j, a < e → j < 11 → M.1 163 (11 * a + j) = yhk X a j) → yhk X e = X.S → ydk X = e + 1 → gX8_act xs (d + 1) Q 51 [.ref 145, .int 0] [] (zFx t, M) := by
    intro M e he m57 mc ml mh hS hd
    have sM : yMS 161 X.S M := fun j hj => by rw [mc 161 j (by decide) (by omega)]; exact hM.S j hj
    refine l_act51 he m57 sM (fun IL' f h1 h2 => ?_) 11 0 M (by omega) zfr_rf (fun j hj => absurd hj (Nat.not_lt_zero j)) (fun j hj => rfl)
    have s1 : yMS 161 X.S (zwi (zwi IL' 145 57 (nI (e + 1))) 145 58 0) := fun j hj => by rw [zwi_ne (by decide), zwi_ne (by decide), f.1 161 (by decide)]; exact sM j hj
    refine c_fill s1 (fun IL2 f2 s2 => kV ?_)
    have kc : ∀ c j, c ≠ 162 → c ≠ 163 → ¬ (c = 145 ∧ (j = 57 ∨ j = 58)) → IL2.1 c j = IL.1 c j := fun c j h3 h4 h5 => by
      rw [f2.1 c (by simp only [List.mem_cons, List.not_mem_nil, or_false]; exact h3)]
      by_cases q : c = 145
      · subst q
        rw [zwi_at, if_neg (by omega), zwi_at, if_neg (by omega), f.1 145 (by decide), mc 145 j (by decide) (by omega)]
      · rw [zwi_ne q, zwi_ne q, f.1 c (by simp only [List.mem_cons, List.not_mem_nil, or_false]; exact h4), mc c j h4 (by omega)]
    have k163 : IL2.1 163 = IL'.1 163 := by rw [f2.1 163 (by decide), zwi_ne (by decide), zwi_ne (by decide)]
    refine hQ IL2 ?_ s2 (fun c hc => funext (fun j => kc c j (by omega) (by omega) (by omega))) (by rw [f2.2]; show IL'.2 = _; rw [f.2, ml])
    refine hM.gen (fun c j h1 h2 h3 h4 h5 => kc c j (fun q => by rw [q] at h2; cases h2) h4 h5) ?_ (fun j hj => by rw [f2.1 161 (by decide)]; exact s1 j hj) ?_ ?_ (fun a j ha hj => ?_)
    · rw [kc 145 27 (by decide) (by decide) (by omega)]; exact hM.m27
    · rw [f2.1 145 (by decide), zwi_at, if_neg (by decide), zwi_at, if_pos rfl, hd]
    · rw [f2.1 145 (by decide), zwi_at, if_pos rfl]; rfl
    · rw [k163]
      by_cases q : a = e
      · rw [q, h1 j hj, hS]
      · rw [h2 (11 * a + j) (by omega), mh a j (by omega) hj]
  refine sX8_act t IL ?_
  rw [hM.don]
  rcases Nat.lt_or_ge X.don 40 with h | h
  · refine zdec (fun z => absurd ((nI_eq (b := 40) (by omega) (by omega)).mp z) (by omega)) (fun _ => ?_)
    refine body IL X.don h hM.don (fun c j _ _ => rfl) rfl (fun a j ha hj => ?_) ?_ ?_
    · have e1 : yhk X a = X.hi a := by unfold yhk; rw [if_pos h, if_neg (by omega)]
      rw [e1]
      exact hM.hist a j (by omega) hj
    · unfold yhk; rw [if_pos h, if_pos rfl]
    · unfold ydk; rw [if_pos h]
  · have d40 : X.don = 40 := by omega
    refine zdec (fun _ => ?_) (fun z => absurd (by rw [d40]; rfl) z)
    refine l_act11 (fun IL' f h1 => ?_) 429 0 IL (by omega) zfr_rf (fun j hj => absurd hj (Nat.not_lt_zero j)) (fun j hj => rfl)
    have e57 : IL'.1 145 57 - 1 = nI 39 := by rw [f.1 145 (by decide), hM.don, d40]; rfl
    rw [e57]
    refine body _ 39 (by decide) (by rw [zwi_at, if_pos rfl]) (fun c j h2 h3 => ?_) (by show IL'.2 = _; rw [f.2]) (fun a j ha hj => ?_) ?_ ?_
    · by_cases q : c = 145
      · subst q
        rw [zwi_at, if_neg (by omega), f.1 145 (by decide)]
      · rw [zwi_ne q, f.1 c (by simp only [List.mem_cons, List.not_mem_nil, or_false]; exact h2)]
    · have e1 : yhk X a = X.hi (a + 1) := by unfold yhk; rw [if_neg (by omega), if_neg (by omega)]
      rw [e1, zwi_ne (by decide), h1 (11 * a + j) (by omega), show 11 + (11 * a + j) = 11 * (a + 1) + j by omega]
      exact hM.hist (a + 1) j (by omega) hj
    · unfold yhk; rw [if_neg (by omega), if_pos rfl]
    · unfold ydk; rw [if_neg (by omega)]
theorem yM.wH {a : Nat → Int32} {b c : Nat} {e : Nat → Nat → Int32} (h : yM (yW X a b c e) A) : yMH X.H A := by
  have q := h.H
  rw [yW_H] at q
  exact q
theorem yM.wSS {a : Nat → Int32} {b c : Nat} {e : Nat → Nat → Int32} (h : yM (yW X a b c e) A) : yMS 161 a A := by
  have q := h.S
  rw [yW_S] at q
  exact q
theorem yM.w27 {a : Nat → Int32} {b c : Nat} {e : Nat → Nat → Int32} (h : yM (yW X a b c e) A) : A.1 145 27 = -1 := h.m27
/-- only the State changes -/
theorem yM.wS2 {a a' : Nat → Int32} {b c : Nat} {e : Nat → Nat → Int32} (h : yM (yW X a b c e) A) (f : ∀ c j, 145 ≤ c → yms c j = false → c ≠ 161 → B.1 c j = A.1 c j) (f27 : B.1 145 27 = -1) (hS : yMS 161 a' B) : yM (yW X a' b c e) B := by
  have q := h.gen (hi' := (yW X a b c e).hi) (fun c j h1 h2 h3 _ _ => f c j h1 h2 h3) f27 hS (by rw [f 145 57 (by decide) rfl (by decide)]; exact h.don) (by rw [f 145 58 (by decide) rfl (by decide)]; exact h.und) (fun a j ha hj => by rw [f 163 _ (by decide) rfl (by decide)]; exact h.hist a j ha hj)
  rw [yW_W] at q
  exact q
theorem m_read {x : Int32} (hI : yI X) (hM : yM X IL) (hfa : fa = 0 ∨ fa = 1) (hQ : ∀ IL', yM (x_read X x fa) IL' → (∀ c, c < 145 → IL'.1 c = IL.1 c) → IL'.2 = IL.2 → Q (zFx t, IL') (some (.int (yun X.H X.S x (if ypas X.H (-1) (X.H.sh x.toNatClampNeg) fa X.S then 1 else 0))))) : zcall xs (d + 6) 217 (zFx t, IL) [.ref 145, .int x, .int fa] Q := by
  have k6 := hI.H.k6
  have no : (∀ v, yun X.H X.S x v = -1) → Q (zFx t, IL) (some (.int (-1))) := fun h => by
    have := hQ IL (by unfold x_read; rw [yub_n h]; exact hM) (fun _ _ => rfl) rfl
    rw [h] at this
    exact this
  refine sX8_read t _ _ IL (c_misClause hI.H hM.H (fun h => kI (z0 (no (fun v => yisM_n h)))) (fun c hc e hx => kI (z1 ?_)))
  subst e
  refine c_isRead (by omega) (fun hb => kI (z0 ?_)) (fun hb => kI (z1 (no (fun v => ?_))))
  · rw [hM.S 8 (by decide)] at hb
    have ex : x_read X (nI c) fa = yread X c fa := by unfold x_read; rw [yub_y k6 hc hb, if_pos rfl, ycl (by omega)]
    have eu : ∀ v, yun X.H X.S (nI c) v = v := fun v => by
      unfold yun
      rw [yisM_y hx, ycl (by omega), hb]
      rfl
    rw [ex, eu, ycl (by omega)] at hQ
    refine c_act hI hM (fun IL1 m1 s1 g1 l1 => kV (c_tr01 hfa (kI ?_)))
    refine c_readOne1 hI.H hI.S m1.wH (Or.inl rfl) m1.w27 hc s1 (fun IL2 f2 s2 => kI (c_keepAir s2 (fun IL3 f3 s3 => kV (c_truth (kI ?_)))))
    refine hQ IL3 (m1.wS2 (fun c j h1 h2 h3 => ?_) ?_ s3) (fun c hc => ?_) (by rw [f3.2, f2.2, l1])
    · rw [f3.1 c (by simp only [List.mem_cons, List.not_mem_nil, or_false]; exact h3), f2.1 c j (ypw_ms c j h2)]
    · rw [f3.1 145 (by decide), f2.1 145 27 rfl]; exact m1.w27
    · rw [f3.1 c (by simp only [List.mem_cons, List.not_mem_nil, or_false]; omega), ← g1 c hc]
      funext j
      exact f2.1 c j (ypw_ms c j (yms_lo hc j))
  · rw [hM.S 8 (by decide)] at hb
    unfold yun
    rw [yisM_y hx, ycl (by omega), hb]
    rfl
theorem m_oil {x : Int32} (hI : yI X) (hM : yM X IL) (hQ : ∀ IL', yM (x_oil X x) IL' → (∀ c, c < 145 → IL'.1 c = IL.1 c) → IL'.2 = IL.2 → Q (zFx t, IL') (some (.int (r_oil X x)))) : zcall xs (d + 4) 218 (zFx t, IL) [.ref 145, .int x] Q := by
  have n7 := hI.H.n7
  have no : yob X x = false → Q (zFx t, IL) (some (.int (-1))) := fun h => by
    have := hQ IL (by unfold x_oil; rw [h]; exact hM) (fun _ _ => rfl) rfl
    unfold r_oil at this
    rw [h] at this
    exact this
  refine sX8_oil t _ IL (c_misMember hI.H hM.H (fun h => kI (z0 (no ?_))) (fun m hm e hx => kI (z1 ?_)))
  · unfold yob
    by_cases a : x < 0
    · rw [decide_eq_true a]; rfl
    · rw [decide_eq_false (fun b => h ⟨a, b⟩), Bool.false_and, Bool.and_false]
  · subst e
    refine zix_n (by omega) (by omega) ?_
    rw [ycl (by omega), hM.S m (by omega)]
    refine zdec (fun z => no ?_) (fun z => ?_)
    · unfold yob
      rw [ycl (by omega), decide_eq_true z, Bool.not_true, Bool.and_false, Bool.and_false]
    · have hy : yob X (nI m) = true := by
        unfold yob
        rw [ycl (by omega), decide_eq_false (nI_pos (by omega)), decide_eq_true (nI_lt hm (by omega)), decide_eq_false z]
        rfl
      have ex : x_oil X (nI m) = yoil X m := by unfold x_oil; rw [hy, if_pos rfl, ycl (by omega)]
      have er : r_oil X (nI m) = X.S m - 1 := by unfold r_oil; rw [hy, if_pos rfl, ycl (by omega)]
      rw [ex, er] at hQ
      refine c_act hI hM (fun IL1 m1 s1 g1 l1 => kV (zix_n (by omega) (by omega) (zix_n (by omega) (by omega) (zix_n (by omega) (by omega) ?_))))
      have e1 : IL1.1 161 m = X.S m := m1.wSS m (by omega)
      rw [e1, zwi_at, if_pos rfl]
      refine hQ _ (m1.wS2 (fun c j h1 h2 h3 => by rw [zwi_ne h3]) (by rw [zwi_ne (by decide)]; exact m1.w27) (fun j hj => ?_)) (fun c hc => by rw [zwi_ne (by omega), g1 c hc]) (by show IL1.2 = _; rw [l1])
      unfold yS'
      rw [zwi_at]
      by_cases q : j = m
      · rw [if_pos q, if_pos q]
      · rw [if_neg q, if_neg q]; exact m1.wSS j hj
theorem m_change (hI : yI X) (hM : yM X IL) (hQ : ∀ IL', yM (x_change X) IL' → (∀ c, c < 145 → IL'.1 c = IL.1 c) → IL'.2 = IL.2 → Q (zFx t, IL') (some (.int (r_change X)))) : zcall xs (d + 4) 220 (zFx t, IL) [.ref 145] Q := by
  have n7 := hI.H.n7
  unfold x_change r_change at hQ
  refine sX8_change t IL ?_
  rw [hM.H.mem]
  refine zdec (fun z => ?_) (fun z => ?_)
  · have n0 : X.H.n = 0 := (nI_eq (b := 0) (by omega) (by omega)).mp z
    rw [if_pos n0, if_pos n0] at hQ
    exact hQ IL hM (fun _ _ => rfl) rfl
  · have n0 : ¬ X.H.n = 0 := fun e => z (by rw [e]; rfl)
    rw [if_neg n0, if_neg n0] at hQ
    refine c_act hI hM (fun IL1 m1 s1 g1 l1 => kV ?_)
    refine c_changes hI.H m1.wH s1 (fun IL2 f2 s2 => kV (c_keepAir s2 (fun IL3 f3 s3 => kV ?_)))
    rw [s3 7 (by decide)]
    have nm : ∀ c, c ≠ 162 → c ≠ 164 → c ∉ [162, 164] := fun c h1 h2 => by simp only [List.mem_cons, List.not_mem_nil, or_false]; omega
    refine hQ IL3 (m1.wS2 (fun c j h1 h2 h3 => ?_) ?_ s3) (fun c hc => ?_) (by rw [f3.2, f2.2, l1])
    · rw [f3.1 c (by simp only [List.mem_cons, List.not_mem_nil, or_false]; exact h3), f2.1 c (nm c (fun q => by rw [q] at h2; cases h2) (fun q => by rw [q] at h2; cases h2))]
    · rw [f3.1 145 (by decide), f2.1 145 (by decide)]; exact m1.w27
    · rw [f3.1 c (by simp only [List.mem_cons, List.not_mem_nil, or_false]; omega), f2.1 c (nm c (by omega) (by omega)), g1 c hc]
theorem l_exch {e : Nat} {S T : Nat → Int32} (he : e < 40) (hQ : ∀ IL', zfr [161, 163] A IL' → yMS 161 T IL' → (∀ j, j < 11 → IL'.1 163 (11 * e + j) = S j) → (∀ j, (j < 11 * e ∨ 11 * e + 11 ≤ j) → IL'.1 163 j = A.1 163 j) → Q (zFx t, IL') none) : ∀ (k i : Nat) (IL : zIL) (w3 : Value), i + k = 11 → zfr [161, 163] A IL → (∀ j, j < 11 → IL.1 161 j = if j < i then T j else S j) → (∀ j, j < 11 → IL.1 163 (11 * e + j) = if j < i then S j else T j) → (∀ j, (j < 11 * e ∨ 11 * e + 11 ≤ j) → IL.1 163 j = A.1 163 j) → gX8_exchange xs d Q 2 [.ref 145, .int (nI (11 * e)), .int (nI i), w3] [] (zFx t, IL)
  | 0, i, IL, w3, hi, fr, h1, h2, h3 => sX8_exchange_2 t _ _ _ IL (zd_f (n := 11) rfl (by omega) (by omega) (hQ IL fr (fun j hj => by rw [h1 j hj, if_pos (by omega)]) (fun j hj => by rw [h2 j hj, if_pos (by omega)]) h3))
  | k + 1, i, IL, w3, hi, fr, h1, h2, h3 => by
    refine sX8_exchange_2 t _ _ _ IL (zd_t (n := 11) rfl (by omega) (by omega) ?_)
    rw [nI_add]
    refine zix_n (by omega) (by omega) (zix_n (by omega) (by omega) (zix_n (by omega) (by omega) (zix_n (by omega) (by omega) ?_)))
    rw [ycl (by omega), ycl (by omega), nI_1, h1 i (by omega), h2 i (by omega), if_neg (by omega), if_neg (by omega)]
    refine l_exch he hQ k (i + 1) _ _ (by omega) (zfr_tr fr (zfr_tr (zfr_wi (by decide)) (zfr_wi (by decide)))) (fun j hj => ?_) (fun j hj => ?_) (fun j hj => ?_)
    · rw [zwi_at]
      by_cases q : j = i
      · rw [if_pos q, if_pos (by omega), q]
      · rw [if_neg q, zwi_ne (by decide), h1 j hj]
        by_cases g : j < i
        · rw [if_pos g, if_pos (by omega)]
        · rw [if_neg g, if_neg (by omega)]
    · rw [zwi_ne (by decide), zwi_at]
      by_cases q : j = i
      · rw [if_pos (by omega), if_pos (by omega), q]
      · rw [if_neg (by omega), h2 j hj]
        by_cases g : j < i
        · rw [if_pos g, if_pos (by omega)]
        · rw [if_neg g, if_neg (by omega)]
    · rw [zwi_ne (by decide), zwi_at, if_neg (by omega)]
      exact h3 j hj
theorem c_mexch {e : Nat} {S T : Nat → Int32} (he : e < 40) (hS : yMS 161 S IL) (hT : ∀ j, j < 11 → IL.1 163 (11 * e + j) = T j) (hQ : ∀ IL', zfr [161, 163] IL IL' → yMS 161 T IL' → (∀ j, j < 11 → IL'.1 163 (11 * e + j) = S j) → (∀ j, (j < 11 * e ∨ 11 * e + 11 ≤ j) → IL'.1 163 j = IL.1 163 j) → Q (zFx t, IL') none) : zcall xs (d + 1) 216 (zFx t, IL) [.ref 145, .int (nI (11 * e))] Q :=
  sX8_exchange t _ IL (l_exch he hQ 11 0 IL _ (by omega) zfr_rf (fun j hj => by rw [if_neg (by omega)]; exact hS j hj) (fun j hj => by rw [if_neg (by omega)]; exact hT j hj) (fun j _ => rfl))
theorem m_undo (hI : yI X) (hM : yM X IL) (hQ : ∀ IL', yM (yundo X) IL' → (∀ c, c < 145 → IL'.1 c = IL.1 c) → IL'.2 = IL.2 → Q (zFx t, IL') (some (.int (if X.don = 0 then 0 else 1)))) : zcall xs (d + 2) 221 (zFx t, IL) [.ref 145] Q := by
  have dn := hI.dn
  unfold yundo at hQ
  refine sX8_undo t IL ?_
  rw [hM.don]
  refine zdec (fun z => ?_) (fun z => ?_)
  · have h : X.don = 0 := (nI_eq (b := 0) (by omega) (by omega)).mp z
    rw [if_pos h, if_pos h] at hQ
    exact hQ IL hM (fun _ _ => rfl) rfl
  · have h : ¬ X.don = 0 := fun q => z (by rw [q]; rfl)
    rw [if_neg h, if_neg h] at hQ
    obtain ⟨e, he⟩ : ∃ e, X.don = e + 1 := ⟨X.don - 1, by omega⟩
    have a1 : (zwi IL 145 57 (nI X.don - 1)).1 145 58 = nI X.und := by rw [zwi_at, if_neg (by decide)]; exact hM.und
    rw [a1, he, nI_pred, nI_1]
    rw [he, show e + 1 - 1 = e by omega] at hQ
    have m0 : (zwi (zwi IL 145 57 (nI e)) 145 58 (nI (X.und + 1))).1 145 57 = nI e := by rw [zwi_at, if_neg (by decide), zwi_at, if_pos rfl]
    have m1 : (zwi (zwi IL 145 57 (nI e)) 145 58 (nI (X.und + 1))).1 145 58 = nI (X.und + 1) := by rw [zwi_at, if_pos rfl]
    have mc : ∀ c j, ¬ (c = 145 ∧ (j = 57 ∨ j = 58)) → (zwi (zwi IL 145 57 (nI e)) 145 58 (nI (X.und + 1))).1 c j = IL.1 c j := fun c j hc => by
      by_cases q : c = 145
      · subst q
        rw [zwi_at, if_neg (by omega), zwi_at, if_neg (by omega)]
      · rw [zwi_ne q, zwi_ne q]
    have ml : (zwi (zwi IL 145 57 (nI e)) 145 58 (nI (X.und + 1))).2 = IL.2 := rfl
    rw [m0, y_11 e (by omega)]
    generalize zwi (zwi IL 145 57 (nI e)) 145 58 (nI (X.und + 1)) = M at m0 m1 mc ml ⊢
    refine c_mexch (S := X.S) (T := X.hi e) (by omega) (fun j hj => by rw [mc 161 j (by omega)]; exact hM.S j hj) (fun j hj => by rw [mc 163 _ (by omega)]; exact hM.hist e j (by omega) hj) (fun IL2 f2 s2 h1 h2 => kV ?_)
    refine hQ IL2 ?_ (fun c hc => funext (fun j => by rw [f2.1 c (by simp only [List.mem_cons, List.not_mem_nil, or_false]; omega), mc c j (by omega)])) (by rw [f2.2, ml])
    refine hM.gen (fun c j g1 g2 g3 g4 g5 => by rw [f2.1 c (by simp only [List.mem_cons, List.not_mem_nil, or_false]; omega), mc c j g5]) (by rw [f2.1 145 (by decide), mc 145 27 (by omega)]; exact hM.m27) s2 (by rw [f2.1 145 (by decide), m0]) (by rw [f2.1 145 (by decide), m1]) (fun a j ha hj => ?_)
    by_cases q : a = e
    · rw [if_pos q, q]
      exact h1 j hj
    · rw [if_neg q, h2 (11 * a + j) (by omega), mc 163 _ (by omega)]
      exact hM.hist a j (by omega) hj
theorem m_redo (hI : yI X) (hM : yM X IL) (hQ : ∀ IL', yM (yredo X) IL' → (∀ c, c < 145 → IL'.1 c = IL.1 c) → IL'.2 = IL.2 → Q (zFx t, IL') (some (.int (if X.und = 0 then 0 else 1)))) : zcall xs (d + 2) 222 (zFx t, IL) [.ref 145] Q := by
  have dn := hI.dn
  unfold yredo at hQ
  refine sX8_redo t IL ?_
  rw [hM.und, hM.don]
  refine zdec (fun z => ?_) (fun z => ?_)
  · have h : X.und = 0 := (nI_eq (b := 0) (by omega) (by omega)).mp z
    rw [if_pos h, if_pos h] at hQ
    exact hQ IL hM (fun _ _ => rfl) rfl
  · have h : ¬ X.und = 0 := fun q => z (by rw [q]; rfl)
    rw [if_neg h, if_neg h] at hQ
    obtain ⟨e, he⟩ : ∃ e, X.und = e + 1 := ⟨X.und - 1, by omega⟩
    rw [he, show e + 1 - 1 = e by omega] at hQ
    rw [y_11 X.don (by omega)]
    refine c_mexch (S := X.S) (T := X.hi X.don) (by omega) hM.S (fun j hj => hM.hist X.don j (by omega) hj) (fun IL2 f2 s2 h1 h2 => kV ?_)
    have k145 : IL2.1 145 = IL.1 145 := f2.1 145 (by decide)
    have a0 : IL2.1 145 57 + 1 = nI (X.don + 1) := by rw [k145, hM.don, nI_1]
    rw [a0]
    have a1 : (zwi IL2 145 57 (nI (X.don + 1))).1 145 58 - 1 = nI e := by rw [zwi_at, if_neg (by decide), k145, hM.und, he, nI_pred]
    rw [a1]
    have kc : ∀ c j, c ≠ 161 → c ≠ 163 → ¬ (c = 145 ∧ (j = 57 ∨ j = 58)) → (zwi (zwi IL2 145 57 (nI (X.don + 1))) 145 58 (nI e)).1 c j = IL.1 c j := fun c j g3 g4 g5 => by
      by_cases q : c = 145
      · subst q
        rw [zwi_at, if_neg (by omega), zwi_at, if_neg (by omega), k145]
      · rw [zwi_ne q, zwi_ne q, f2.1 c (by simp only [List.mem_cons, List.not_mem_nil, or_false]; omega)]
    refine hQ _ ?_ (fun c hc => funext (fun j => kc c j (by omega) (by omega) (by omega))) (by show IL2.2 = _; rw [f2.2])
    refine hM.gen (fun c j g1 g2 g3 g4 g5 => kc c j g3 g4 g5) (by rw [kc 145 27 (by decide) (by decide) (by omega)]; exact hM.m27) (fun j hj => by rw [zwi_ne (by decide), zwi_ne (by decide)]; exact s2 j hj) (by rw [zwi_at, if_neg (by decide), zwi_at, if_pos rfl]) (by rw [zwi_at, if_pos rfl]) (fun a j ha hj => ?_)
    rw [zwi_ne (by decide), zwi_ne (by decide)]
    by_cases q : a = X.don
    · rw [if_pos q, q]
      exact h1 j hj
    · rw [if_neg q, h2 (11 * a + j) (by omega)]
      exact hM.hist a j (by omega) hj
end MACTS
