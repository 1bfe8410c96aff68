/-! image, back: the model's side; what is only read -/
section MBOX
variable {xs : List Int32} {d : Nat} {Q : zQ} {t : Bool} {IL A : zIL} {X : yX}
theorem c_isBox {x : Int32} (h0 : ybb x = false → Q (zFx t, IL) (some (.int 0))) (h1 : ∀ b, b < 3 → x = nI b → Q (zFx t, IL) (some (.int 1))) : zcall xs (d + 1) 279 (zFx t, IL) [.int x] Q := by
  refine sX8_isBox t _ IL (zdec (fun z => h0 (by unfold ybb; rw [decide_eq_true z]; rfl)) (fun z => zdec (fun w => ?_) (fun w => h0 (by unfold ybb; rw [decide_eq_false w, Bool.and_false]))))
  obtain ⟨b, hb, e⟩ := y_b3 z w
  exact h1 b hb e
theorem l_image {b : Nat} {S : Nat → Int32} (hb : b < 3) (hS : yMS 161 S A) (hQ : ∀ IL', zfr [178] A IL' → (∀ j, j < 11 → IL'.1 178 (11 * b + j) = S j) → (∀ j, (j < 11 * b ∨ 11 * b + 11 ≤ j) → IL'.1 178 j = A.1 178 j) → Q (zFx t, IL') (some (.int (yre S)))) : ∀ (k i : Nat) (IL : zIL), i + k = 11 → zfr [178] A IL → (∀ j, j < i → IL.1 178 (11 * b + j) = S j) → (∀ j, (j < 11 * b ∨ 11 * b + 11 ≤ j) → IL.1 178 j = A.1 178 j) → gX8_image xs (d + 1) Q 18 [.ref 145, .int (nI b), .int (nI i)] [] (zFx t, IL)
  | 0, i, IL, hi, fr, h1, h2 => by
    refine sX8_image_18 t _ _ IL (zd_f (n := 11) rfl (by omega) (by omega) (c_members (kI ?_)))
    rw [fr.1 161 (by decide), hS 8 (by decide)]
    exact hQ IL fr (fun j hj => h1 j (by omega)) h2
  | k + 1, i, IL, hi, fr, h1, h2 => by
    refine sX8_image_18 t _ _ IL (zd_t (n := 11) rfl (by omega) (by omega) (zix_n (by omega) (by omega) ?_))
    rw [y_11 b (by omega), nI_add]
    refine zix_n (by omega) (by omega) ?_
    rw [ycl (by omega), ycl (by omega), nI_1, fr.1 161 (by decide), hS i (by omega)]
    refine l_image hb hS hQ k (i + 1) _ (by omega) (zfr_tr fr (zfr_wi (by decide))) (fun j hj => ?_) (fun j hj => ?_)
    · rw [zwi_at]
      by_cases q : j = i
      · rw [if_pos (by omega), q]
      · rw [if_neg (by omega)]; exact h1 j (by omega)
    · rw [zwi_at, if_neg (by omega)]; exact h2 j hj
theorem m_image {x : Int32} (hM : yM X IL) (hQ : ∀ IL', yM (x_image X x) IL' → (∀ c, c < 145 → IL'.1 c = IL.1 c) → IL'.2 = IL.2 → Q (zFx t, IL') (some (.int (r_image X x)))) : zcall xs (d + 2) 280 (zFx t, IL) [.ref 145, .int x] Q := by
  unfold x_image r_image at hQ
  refine sX8_image t _ IL (c_isBox (fun h => kI (z0 ?_)) (fun b hb e => kI (z1 ?_)))
  · rw [h] at hQ
    exact hQ IL hM (fun _ _ => rfl) rfl
  · subst e
    rw [ybb_y hb, if_pos rfl, if_pos rfl, ycl (by omega)] at hQ
    refine zix_n hb (by decide) ?_
    rw [ycl (by omega)]
    have s1 : yMS 161 X.S (zwi IL 177 b (vp_nar .boolean 1)) := fun j hj => by rw [zwi_ne (by decide)]; exact hM.S j hj
    refine l_image hb s1 (fun IL' f h1 h2 => ?_) 11 0 _ (by omega) zfr_rf (fun j hj => absurd hj (Nat.not_lt_zero j)) (fun j _ => rfl)
    have kc : ∀ c, c ≠ 177 → c ≠ 178 → IL'.1 c = IL.1 c := fun c g1 g2 => by rw [f.1 c (by simp only [List.mem_cons, List.not_mem_nil, or_false]; exact g2), zwi_ne g1]
    refine hQ IL' ?_ (fun c hc => kc c (by omega) (by omega)) (by rw [f.2]; rfl)
    have g : ∀ c, c ≠ 177 → c ≠ 178 → ∀ j, IL'.1 c j = IL.1 c j := fun c g1 g2 j => by rw [kc c g1 g2]
    refine yM.mk (hM.H.fr (fun c j z => g c (fun q => by rw [q] at z; exact absurd z (by unfold yMHs; simp)) (fun q => by rw [q] at z; exact absurd z (by unfold yMHs; simp)) j)) ?_ ?_ ?_ ?_ ?_ ?_ ?_ ?_ ?_ ?_ ?_ ?_ ?_ ?_ ?_ ?_ ?_ ?_ (fun c hc => ?_) (fun c j hc hx hj => ?_)
    · intro j hj; rw [g 161 (by decide) (by decide)]; exact hM.S j hj
    · rw [g 145 (by decide) (by decide)]; exact hM.m27
    · rw [g 145 (by decide) (by decide)]; exact hM.len
    · intro j hj; rw [g 146 (by decide) (by decide)]; exact hM.tape j hj
    · rw [g 145 (by decide) (by decide)]; exact hM.fau
    · rw [g 145 (by decide) (by decide)]; exact hM.pla
    · rw [g 145 (by decide) (by decide)]; exact hM.don
    · rw [g 145 (by decide) (by decide)]; exact hM.und
    · intro a j ha hj; rw [g 163 (by decide) (by decide)]; exact hM.hist a j ha hj
    · rw [g 145 (by decide) (by decide)]; exact hM.lai
    · intro j hj; rw [g 165 (by decide) (by decide)]; exact hM.lie j hj
    · rw [g 145 (by decide) (by decide)]; exact hM.cnt
    · rw [g 145 (by decide) (by decide)]; exact hM.tim
    · intro j hj; rw [g 169 (by decide) (by decide)]; exact hM.sof j hj
    · intro j hj; rw [g 170 (by decide) (by decide)]; exact hM.sno j hj
    · intro j hj; rw [g 171 (by decide) (by decide)]; exact hM.sto j hj
    · intro j hj; rw [g 172 (by decide) (by decide)]; exact hM.sun j hj
    · intro j hj; rw [g 173 (by decide) (by decide)]; exact hM.sis j hj
    · rw [f.1 177 (by decide), zwi_at]
      by_cases q : c = b
      · rw [if_pos q]
        have : (yimg X b).bxf c = true := by show (decide (c = b) || X.bxf c) = true; rw [decide_eq_true q]; rfl
        rw [this]
        rfl
      · rw [if_neg q]
        have : (yimg X b).bxf c = X.bxf c := by show (decide (c = b) || X.bxf c) = X.bxf c; rw [decide_eq_false q]; rfl
        rw [this]
        exact hM.bxm c hc
    · by_cases q : c = b
      · subst q
        have : (yimg X c).bx c = X.S := by show (if c = c then X.S else X.bx c) = X.S; rw [if_pos rfl]
        rw [this]
        exact h1 j hj
      · have e1 : (yimg X b).bx c = X.bx c := by show (if c = b then X.S else X.bx c) = X.bx c; rw [if_neg q]
        have e2 : X.bxf c = true := by
          have : (decide (c = b) || X.bxf c) = true := hx
          rw [decide_eq_false q, Bool.false_or] at this
          exact this
        rw [e1, h2 (11 * c + j) (by omega), zwi_ne (by decide)]
        exact hM.bx c j hc e2 hj
theorem l_back {b : Nat} {T : Nat → Int32} (hb : b < 3) (hT : ∀ j, j < 11 → A.1 178 (11 * b + j) = T j) (hQ : ∀ IL', zfr [161] A IL' → yMS 161 T IL' → Q (zFx t, zwi (zwi IL' 145 57 0) 145 58 0) (some (.int (yre T)))) : ∀ (k i : Nat) (IL : zIL), i + k = 11 → zfr [161] A IL → (∀ j, j < i → IL.1 161 j = T j) → gX8_back xs (d + 1) Q 20 [.ref 145, .int (nI b), .int (nI i)] [] (zFx t, IL)
  | 0, i, IL, hi, fr, h1 => by
    have s : yMS 161 T IL := fun j hj => h1 j (by omega)
    refine sX8_back_20 t _ _ IL (zd_f (n := 11) rfl (by omega) (by omega) (c_members (kI ?_)))
    rw [zwi_ne (by decide), zwi_ne (by decide), s 8 (by decide)]
    exact hQ IL fr s
  | k + 1, i, IL, hi, fr, h1 => by
    refine sX8_back_20 t _ _ IL (zd_t (n := 11) rfl (by omega) (by omega) ?_)
    rw [y_11 b (by omega), nI_add]
    refine zix_n (by omega) (by omega) (zix_n (by omega) (by omega) ?_)
    rw [ycl (by omega), ycl (by omega), nI_1, fr.1 178 (by decide), hT i (by omega)]
    refine l_back hb hT hQ k (i + 1) _ (by omega) (zfr_tr fr (zfr_wi (by decide))) (fun j hj => ?_)
    rw [zwi_at]
    by_cases q : j = i
    · rw [if_pos q, q]
    · rw [if_neg q]; exact h1 j (by omega)
theorem m_back {x : Int32} (hM : yM X IL) (hQ : ∀ IL', yM (x_back X x) IL' → (∀ c, c < 145 → IL'.1 c = IL.1 c) → IL'.2 = IL.2 → Q (zFx t, IL') (some (.int (r_back X x)))) : zcall xs (d + 2) 281 (zFx t, IL) [.ref 145, .int x] Q := by
  unfold x_back r_back at hQ
  have no : (ybb x && X.bxf x.toNatClampNeg) = false → Q (zFx t, IL) (some (.int (-1))) := fun h => by
    rw [h] at hQ
    exact hQ IL hM (fun _ _ => rfl) rfl
  refine sX8_back t _ IL (c_isBox (fun h => kI (z0 (no (by rw [h]; rfl)))) (fun b hb e => kI (z1 ?_)))
  subst e
  refine zix_n hb (by decide) ?_
  rw [ycl (by omega), hM.bxm b hb]
  refine zbb (fun e => no ?_) (fun e => ?_)
  · rw [ycl (by omega), e, Bool.and_false]
  · rw [ybb_y hb, ycl (by omega), e, Bool.and_self, if_pos rfl, if_pos rfl] at hQ
    refine l_back hb (fun j hj => hM.bx b j hb e hj) (fun IL' f s => ?_) 11 0 IL (by omega) zfr_rf (fun j hj => absurd hj (Nat.not_lt_zero j))
    have kc : ∀ c j, c ≠ 161 → ¬ (c = 145 ∧ (j = 57 ∨ j = 58)) → (zwi (zwi IL' 145 57 0) 145 58 0).1 c j = IL.1 c j := fun c j g1 g2 => by
      by_cases q : c = 145
      · subst q
        rw [zwi_at, if_neg (by omega), zwi_at, if_neg (by omega), f.1 145 (by decide)]
      · rw [zwi_ne q, zwi_ne q, f.1 c (by simp only [List.mem_cons, List.not_mem_nil, or_false]; exact g1)]
    refine hQ _ ?_ (fun c hc => funext (fun j => kc c j (by omega) (by omega))) (by show IL'.2 = _; rw [f.2])
    exact hM.gen (fun c j g1 g2 g3 g4 g5 => kc c j g3 g5) (by rw [kc 145 27 (by decide) (by omega)]; exact hM.m27) (fun j hj => by rw [zwi_ne (by decide), zwi_ne (by decide)]; exact s j hj) (by rw [zwi_at, if_neg (by decide), zwi_at, if_pos rfl]; rfl) (by rw [zwi_at, if_pos rfl]; rfl) (fun a j ha hj => absurd ha (Nat.not_lt_zero a))
def r_fault (X : yX) (w : Int32) : Int32 := if w = 0 then X.fau else if w = 1 then X.pla else -1
theorem c_fault {w : Int32} (hC : yC t X IL) (hQ : Q (zFx t, IL) (some (.int (r_fault X w)))) : zcall xs (d + 1) 90 (zFx t, IL) [.ref 0, .int w] Q := by
  unfold r_fault at hQ
  refine sX7_fault t _ IL ?_
  rw [hC.fau, hC.pla]
  exact zif_R (fun v => Q (zFx t, IL) (some (.int v))) hQ (fun _ h => h) (fun _ h => zif_R (fun v => Q (zFx t, IL) (some (.int v))) h (fun _ h => h) (fun _ h => h))
theorem m_fault {w : Int32} (hM : yM X IL) (hQ : Q (zFx t, IL) (some (.int (r_fault X w)))) : zcall xs (d + 1) 196 (zFx t, IL) [.ref 145, .int w] Q := by
  unfold r_fault at hQ
  refine sX8_fault t _ IL ?_
  rw [hM.fau, hM.pla]
  exact zif_R (fun v => Q (zFx t, IL) (some (.int v))) hQ (fun _ h => h) (fun _ h => zif_R (fun v => Q (zFx t, IL) (some (.int v))) h (fun _ h => h) (fun _ h => h))
def r_member (X : yX) (x w : Int32) : Int32 := ymb X.H.n x (if w = 0 then (if bt (X.S 7) x.toNatClampNeg then 1 else 0) else if w = 1 then X.H.mi x.toNatClampNeg else if w = 2 then X.H.vo x.toNatClampNeg else if w = 3 then X.S x.toNatClampNeg else -1)
theorem c_member {x w : Int32} (hI : yI X) (hC : yC t X IL) (hQ : Q (zFx t, IL) (some (.int (r_member X x w)))) : zcall xs (d + 2) 91 (zFx t, IL) [.ref 0, .int x, .int w] Q := by
  have n7 := hI.H.n7
  unfold r_member ymb at hQ
  refine sX7_member t _ _ IL (c_isMember hI.H hC.H (fun h => kI (z0 ?_)) (fun m hm e h => kI (z1 ?_)))
  · rw [yisM_n h] at hQ; exact hQ
  · rw [yisM_y h] at hQ
    subst e
    rw [ycl (by omega)] at hQ
    rw [ycl (by omega), hC.S.out, hC.H.mi m hm, hC.H.vo m hm, show IL.1 23 m = X.S m from hC.S.no m (by omega)]
    refine zdec (fun z => ?_) (fun z => ?_)
    · rw [if_pos z] at hQ
      exact c_has (by omega) (fun hb => kI (z0 (by rw [hb] at hQ; exact hQ))) (fun hb => kI (z1 (by rw [hb] at hQ; exact hQ)))
    rw [if_neg z] at hQ
    refine zdec (fun z => zix_n (by omega) (by omega) ?_) (fun z => ?_)
    · rw [if_pos z] at hQ; exact hQ
    rw [if_neg z] at hQ
    refine zdec (fun z => zix_n (by omega) (by omega) ?_) (fun z => ?_)
    · rw [if_pos z] at hQ; exact hQ
    rw [if_neg z] at hQ
    refine zdec (fun z => zix_n (by omega) (by omega) ?_) (fun z => ?_)
    · rw [if_pos z] at hQ; exact hQ
    rw [if_neg z] at hQ
    exact hQ
theorem m_member {x w : Int32} (hI : yI X) (hM : yM X IL) (hQ : Q (zFx t, IL) (some (.int (r_member X x w)))) : zcall xs (d + 3) 211 (zFx t, IL) [.ref 145, .int x, .int w] Q := by
  have n7 := hI.H.n7
  unfold r_member ymb at hQ
  refine sX8_member t _ _ IL (c_misMember hI.H hM.H (fun h => kI (z0 ?_)) (fun m hm e h => kI (z1 ?_)))
  · rw [yisM_n h] at hQ; exact hQ
  · rw [yisM_y h] at hQ
    subst e
    rw [ycl (by omega)] at hQ
    rw [ycl (by omega), hM.H.mi m hm, hM.H.vo m hm, hM.S m (by omega)]
    refine zdec (fun z => ?_) (fun z => ?_)
    · rw [if_pos z] at hQ
      exact c_misOut (by omega) hM.S (fun hb => kI (c_truth0 (kI (by rw [hb] at hQ; exact hQ)))) (fun hb => kI (c_truth1 (kI (by rw [hb] at hQ; exact hQ))))
    rw [if_neg z] at hQ
    refine zdec (fun z => zix_n (by omega) (by omega) ?_) (fun z => ?_)
    · rw [if_pos z] at hQ; exact hQ
    rw [if_neg z] at hQ
    refine zdec (fun z => zix_n (by omega) (by omega) ?_) (fun z => ?_)
    · rw [if_pos z] at hQ; exact hQ
    rw [if_neg z] at hQ
    refine zdec (fun z => zix_n (by omega) (by omega) ?_) (fun z => ?_)
    · rw [if_pos z] at hQ; exact hQ
    rw [if_neg z] at hQ
    exact hQ
def r_clause (X : yX) (x w : Int32) : Int32 := ymb X.H.k x (if w = 0 then X.H.sh x.toNatClampNeg else if w = 1 then (if bt (X.S 8) x.toNatClampNeg then 1 else 0) else if w = 2 then (if bt (X.S 9) x.toNatClampNeg then 1 else 0) else -1)
theorem c_clause {x w : Int32} (hI : yI X) (hC : yC t X IL) (hQ : Q (zFx t, IL) (some (.int (r_clause X x w)))) : zcall xs (d + 2) 92 (zFx t, IL) [.ref 0, .int x, .int w] Q := by
  have k6 := hI.H.k6
  unfold r_clause ymb at hQ
  refine sX7_clause t _ _ IL (c_isClause hI.H hC.H (fun h => kI (z0 ?_)) (fun m hm e h => kI (z1 ?_)))
  · rw [yisM_n h] at hQ; exact hQ
  · rw [yisM_y h] at hQ
    subst e
    rw [ycl (by omega)] at hQ
    rw [ycl (by omega), hC.S.read, hC.S.car, hC.H.sh m hm]
    refine zdec (fun z => zix_n (by omega) (by omega) ?_) (fun z => ?_)
    · rw [if_pos z] at hQ; exact hQ
    rw [if_neg z] at hQ
    refine zdec (fun z => ?_) (fun z => ?_)
    · rw [if_pos z] at hQ
      exact c_has (by omega) (fun hb => kI (z0 (by rw [hb] at hQ; exact hQ))) (fun hb => kI (z1 (by rw [hb] at hQ; exact hQ)))
    rw [if_neg z] at hQ
    refine zdec (fun z => ?_) (fun z => ?_)
    · rw [if_pos z] at hQ
      exact c_has (by omega) (fun hb => kI (z0 (by rw [hb] at hQ; exact hQ))) (fun hb => kI (z1 (by rw [hb] at hQ; exact hQ)))
    rw [if_neg z] at hQ
    exact hQ
theorem m_clause {x w : Int32} (hI : yI X) (hM : yM X IL) (hQ : Q (zFx t, IL) (some (.int (r_clause X x w)))) : zcall xs (d + 3) 212 (zFx t, IL) [.ref 145, .int x, .int w] Q := by
  have k6 := hI.H.k6
  unfold r_clause ymb at hQ
  refine sX8_clause t _ _ IL (c_misClause hI.H hM.H (fun h => kI (z0 ?_)) (fun m hm e h => kI (z1 ?_)))
  · rw [yisM_n h] at hQ; exact hQ
  · rw [yisM_y h] at hQ
    subst e
    rw [ycl (by omega)] at hQ
    rw [ycl (by omega), hM.S 8 (by decide), hM.S 9 (by decide), hM.H.sh m hm, zb_and1 _ m (by omega), zb_and1 _ m (by omega)]
    refine zdec (fun z => zix_n (by omega) (by omega) ?_) (fun z => ?_)
    · rw [if_pos z] at hQ; exact hQ
    rw [if_neg z] at hQ
    refine zdec (fun z => ?_) (fun z => ?_)
    · rw [if_pos z] at hQ; exact hQ
    rw [if_neg z] at hQ
    refine zdec (fun z => ?_) (fun z => ?_)
    · rw [if_pos z] at hQ; exact hQ
    rw [if_neg z] at hQ
    exact hQ
def r_about (X : yX) (w : Int32) : Int32 := if w = 0 then nI X.H.n else if w = 1 then nI X.H.k else if w = 2 then X.S 8 else if w = 3 then X.S 9 else if w = 4 then X.S 10 else if w = 5 then nI X.don else if w = 6 then nI X.und else if w = 7 then nI X.cnt else if w = 8 then X.tim else if w = 9 then nI X.len else if w = 10 then X.H.units else if w = 11 then nI X.lai else if w = 12 then X.H.cock else if w = 13 then X.H.quota else if w = 14 then X.H.puns else -1
theorem c_about {w : Int32} (hC : yC t X IL) (hQ : Q (zFx t, IL) (some (.int (r_about X w)))) : zcall xs (d + 1) 137 (zFx t, IL) [.ref 0, .int w] Q := by
  unfold r_about at hQ
  refine sX7_about t _ IL ?_
  rw [hC.H.mem, hC.H.cla, hC.S.read, hC.S.car, hC.S.seed, hC.don, hC.und, hC.cnt, hC.tim, hC.len, hC.H.units, hC.lai, hC.H.cock, hC.H.quota, hC.H.puns]
  have L : ∀ {c : Prop} [Decidable c] {a b : Int32} {B : Prop}, Q (zFx t, IL) (some (.int (if c then a else b))) → (Q (zFx t, IL) (some (.int b)) → B) → zif2 (decide c) (Q (zFx t, IL) (some (.int a))) B := fun h hB => zif_R (fun v => Q (zFx t, IL) (some (.int v))) h (fun _ h => h) (fun _ h => hB h)
  exact L hQ (fun h => L h (fun h => L h (fun h => L h (fun h => L h (fun h => L h (fun h => L h (fun h => L h (fun h => L h (fun h => L h (fun h => L h (fun h => L h (fun h => L h (fun h => L h (fun h => L h (fun h => h)))))))))))))))
theorem m_about {w : Int32} (hM : yM X IL) (hQ : Q (zFx t, IL) (some (.int (r_about X w)))) : zcall xs (d + 1) 282 (zFx t, IL) [.ref 145, .int w] Q := by
  unfold r_about at hQ
  refine sX8_about t _ IL ?_
  rw [hM.H.mem, hM.H.cla, hM.S 8 (by decide), hM.S 9 (by decide), hM.S 10 (by decide), hM.don, hM.und, hM.cnt, hM.tim, hM.len, hM.H.units, hM.lai, hM.H.cock, hM.H.quota, hM.H.puns]
  have L : ∀ {c : Prop} [Decidable c] {a b : Int32} {B : Prop}, Q (zFx t, IL) (some (.int (if c then a else b))) → (Q (zFx t, IL) (some (.int b)) → B) → zif2 (decide c) (Q (zFx t, IL) (some (.int a))) B := fun h hB => zif_R (fun v => Q (zFx t, IL) (some (.int v))) h (fun _ h => h) (fun _ h => hB h)
  exact L hQ (fun h => L h (fun h => L h (fun h => L h (fun h => L h (fun h => L h (fun h => L h (fun h => L h (fun h => L h (fun h => L h (fun h => L h (fun h => L h (fun h => L h (fun h => L h (fun h => L h (fun h => h)))))))))))))))
def r_lies (X : yX) (x : Int32) : Int32 := if x < 0 then -2 else if x < nI X.lai then X.lie x.toNatClampNeg else -2
theorem c_lies {x : Int32} (hI : yI X) (hC : yC t X IL) (hQ : Q (zFx t, IL) (some (.int (r_lies X x)))) : zcall xs (d + 1) 128 (zFx t, IL) [.ref 0, .int x] Q := by
  have l6 := hI.lai
  unfold r_lies at hQ
  refine sX7_lies t _ IL ?_
  rw [hC.lai]
  refine zdec (fun z => ?_) (fun z => zdec (fun w => ?_) (fun w => ?_))
  · rw [if_pos z] at hQ; exact hQ
  · rw [if_neg z, if_pos w] at hQ
    obtain ⟨m, hm, rfl⟩ := y_nat z w (by omega)
    refine zix_n (by omega) (by omega) ?_
    rw [ycl (by omega)] at hQ ⊢
    rw [hC.lie m hm]
    exact hQ
  · rw [if_neg z, if_neg w] at hQ; exact hQ
theorem m_lies {x : Int32} (hI : yI X) (hM : yM X IL) (hQ : Q (zFx t, IL) (some (.int (r_lies X x)))) : zcall xs (d + 2) 267 (zFx t, IL) [.ref 145, .int x] Q := by
  have l6 := hI.lai
  unfold r_lies at hQ
  refine sX8_lies t _ IL ?_
  rw [hM.lai]
  refine c_isIn (fun z => kI (z0 ?_)) (fun z w => kI (z1 ?_))
  · by_cases a : x < 0
    · rw [if_pos a] at hQ; exact hQ
    · rw [if_neg a, if_neg (fun b => z ⟨a, (y_pred (by omega) a).mpr b⟩)] at hQ
      exact hQ
  · have w' := (y_pred (by omega) z).mp w
    rw [if_neg z, if_pos w'] at hQ
    obtain ⟨m, hm, rfl⟩ := y_nat z w' (by omega)
    refine zix_n (by omega) (by omega) ?_
    rw [ycl (by omega)] at hQ ⊢
    rw [hM.lie m hm]
    exact hQ
theorem c_outs (hC : yC t X IL) (hQ : Q (zFx t, IL) (some (.int (X.S 7)))) : zcall xs (d + 1) 119 (zFx t, IL) [.ref 0] Q := by
  refine sX7_outs t IL ?_
  rw [hC.S.out]
  exact hQ
theorem m_outs (hM : yM X IL) (hQ : Q (zFx t, IL) (some (.int (X.S 7)))) : zcall xs (d + 1) 258 (zFx t, IL) [.ref 145] Q := by
  refine sX8_outs t IL ?_
  rw [hM.S 7 (by decide)]
  exact hQ
end MBOX
