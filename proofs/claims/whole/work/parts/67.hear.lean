/-! what is heard: later, untell, heard -/
def yY (X : yX) (cnt' : Nat) (tim' : Int32) (sof' : Nat → Nat) (sno' : Nat → Int32) (sis' : Nat → Bool) (sto' sun' : Nat → Int32) : yX := yX.mk X.H X.S X.len X.tp X.fau X.pla X.don X.und X.hi X.lai X.lie cnt' tim' sof' sno' sis' sto' sun' X.bxf X.bx
def yup1 {α : Type} (f : Nat → α) (k : Nat) (v : α) (j : Nat) : α := if j = k then v else f j
theorem yup1_at {α : Type} {f : Nat → α} {k : Nat} {v : α} : yup1 f k v k = v := if_pos rfl
theorem yup1_ne {α : Type} {f : Nat → α} {k j : Nat} {v : α} (h : j ≠ k) : yup1 f k v j = f j := if_neg h
def ylt (X : yX) (by' : Int32) : Bool := !decide (by' < 0) && (!decide (1000 < by') && !decide (100000 < X.tim + by'))
def x_later (X : yX) (v : Int32) : yX := if ylt X v then yY X X.cnt (X.tim + v) X.sof X.sno X.sis X.sto X.sun else X
def r_later (X : yX) (v : Int32) : Int32 := if ylt X v then X.tim + v else -1
def yunb (X : yX) (x : Int32) : Bool := !decide (x < 0) && (decide (x < nI X.cnt) && decide (X.sun x.toNatClampNeg = -1))
def x_untell (X : yX) (x : Int32) : yX := if yunb X x then yY X X.cnt X.tim X.sof X.sno X.sis X.sto (yup1 X.sun x.toNatClampNeg X.tim) else X
def r_untell (X : yX) (x : Int32) : Int32 := if yunb X x then 1 else 0
def yhb (X : yX) (n no : Int32) : Bool := (!decide (n < 0) && !decide (6 < n)) && ((!decide (no < 0) && !decide (99 < no)) && (yope X.H && decide (X.cnt < 30)))
def x_heard (X : yX) (n no : Int32) (b : Bool) : yX := if yhb X n no then yY X (X.cnt + 1) X.tim (yup1 X.sof X.cnt n.toNatClampNeg) (yup1 X.sno X.cnt no) (yup1 X.sis X.cnt b) (yup1 X.sto X.cnt X.tim) (yup1 X.sun X.cnt (-1)) else X
def r_heard (X : yX) (n no : Int32) : Int32 := if yhb X n no then nI X.cnt else -1
theorem y_n6 {n : Int32} (h0 : ¬ n < 0) (h1 : ¬ 6 < n) : ∃ k, k ≤ 6 ∧ n = nI k := by
  obtain ⟨k, hk, e⟩ := y_nat (n := 7) h0 (by
    have a1 : ¬ (6 : Int32).toInt < n.toInt := fun q => h1 (Int32.lt_iff_toInt_lt.mpr q)
    have a2 : (6 : Int32).toInt = 6 := by decide
    have a3 : (nI 7).toInt = 7 := by decide
    rw [Int32.lt_iff_toInt_lt, a3]
    omega) (by decide)
  exact ⟨k, by omega, e⟩
section HEAR
variable {xs : List Int32} {d : Nat} {Q : zQ} {t : Bool} {IL A B : zIL} {X : yX}
theorem yC.hear (h : yC t X A) {cnt' : Nat} {tim' : Int32} {sof' : Nat → Nat} {sno' : Nat → Int32} {sis' : Nat → Bool} {sto' sun' : Nat → Int32} (f : ∀ c, c < 145 → ¬ (128 ≤ c ∧ c ≤ 133) → B.1 c = A.1 c) (f2 : B.2 5 = A.2 5) (fo : B.1 128 2 = A.1 128 2) (hc : B.1 128 0 = nI cnt') (ht : B.1 128 1 = tim') (h1 : ∀ i, i < cnt' → B.1 129 i = nI (sof' i)) (h2 : ∀ i, i < cnt' → B.1 130 i = sno' i) (h3 : ∀ i, i < cnt' → B.1 131 i = if sis' i then 1 else 0) (h4 : ∀ i, i < cnt' → B.1 132 i = sto' i) (h5 : ∀ i, i < cnt' → B.1 133 i = if sun' i = -1 then 100001 else sun' i) : yC t (yY X cnt' tim' sof' sno' sis' sto' sun') B := by
  have g : ∀ c, c < 145 → ¬ (128 ≤ c ∧ c ≤ 133) → ∀ j, B.1 c j = A.1 c j := fun c a b j => by rw [f c a b]
  have zl := zH_le t
  obtain ⟨o, o1, o2, o3⟩ := h.hist
  refine yC.mk (h.H.fr (fun i _ _ _ => f _ (by omega) (by omega))) (h.S.fr (f 22 (by decide) (by decide)) (f 23 (by decide) (by decide))) ?_ ?_ ?_ ?_ ?_ ?_ ⟨o, o1, ?_, fun a ha => ?_⟩ ?_ ?_ hc ht ?_ h1 h2 h3 h4 h5 ?_ ?_ (fun j hj hx => ?_) ?_
  · rw [g 1 (by decide) (by decide)]; exact h.len
  · intro j hj; rw [g 2 (by decide) (by decide)]; exact h.tape j hj
  · rw [g 1 (by decide) (by decide)]; exact h.fau
  · rw [g 1 (by decide) (by decide)]; exact h.pla
  · rw [g 26 (by decide) (by decide)]; exact h.don
  · rw [g 26 (by decide) (by decide)]; exact h.und
  · rw [g 26 (by decide) (by decide)]; exact o2
  · have hm : (o + a) % 40 < 40 := Nat.mod_lt _ (by decide)
    exact (o3 a ha).fr (f _ (by omega) (by omega)) (f _ (by omega) (by omega))
  · rw [g 0 (by decide) (by decide)]; exact h.lai
  · intro j hj; rw [g 136 (by decide) (by decide)]; exact h.lie j hj
  · rw [fo]; exact h.ope
  · intro a v n hv hn; rw [g 134 (by decide) (by decide)]; exact h.trk a v n hv hn
  · intro b hb; rw [g 0 (by decide) (by decide)]; exact h.bxm b hb
  · exact (h.bx j hj hx).fr (f _ (by omega) (by omega)) (f _ (by omega) (by omega))
  · intro w hw; rw [f2]; exact h.cod w hw
theorem yM.hear (h : yM X A) {cnt' : Nat} {tim' : Int32} {sof' : Nat → Nat} {sno' : Nat → Int32} {sis' : Nat → Bool} {sto' sun' : Nat → Int32} (f : ∀ c j, 145 ≤ c → ¬ (169 ≤ c ∧ c ≤ 173) → ¬ (c = 145 ∧ (j = 71 ∨ j = 72)) → B.1 c j = A.1 c j) (hc : B.1 145 71 = nI cnt') (ht : B.1 145 72 = tim') (h1 : ∀ i, i < cnt' → B.1 169 i = nI (sof' i)) (h2 : ∀ i, i < cnt' → B.1 170 i = sno' i) (h4 : ∀ i, i < cnt' → B.1 171 i = sto' i) (h5 : ∀ i, i < cnt' → B.1 172 i = sun' i) (h3 : ∀ i, i < cnt' → B.1 173 i = if sis' i then 1 else 0) : yM (yY X cnt' tim' sof' sno' sis' sto' sun') B := by
  refine yM.mk (h.H.fr (fun c j z => ?_)) ?_ ?_ ?_ ?_ ?_ ?_ ?_ ?_ ?_ ?_ ?_ hc ht h1 h2 h4 h5 h3 ?_ ?_
  · unfold yMHs at z
    simp only [Bool.or_eq_true, Bool.and_eq_true, beq_iff_eq] at z
    exact f c j (by omega) (by omega) (by omega)
  · intro j hj; rw [f 161 j (by decide) (by decide) (by omega)]; exact h.S j hj
  · rw [f 145 27 (by decide) (by decide) (by decide)]; exact h.m27
  · rw [f 145 1 (by decide) (by decide) (by decide)]; exact h.len
  · intro j hj; rw [f 146 j (by decide) (by decide) (by omega)]; exact h.tape j hj
  · rw [f 145 2 (by decide) (by decide) (by decide)]; exact h.fau
  · rw [f 145 3 (by decide) (by decide) (by decide)]; exact h.pla
  · rw [f 145 57 (by decide) (by decide) (by decide)]; exact h.don
  · rw [f 145 58 (by decide) (by decide) (by decide)]; exact h.und
  · intro a j ha hj; rw [f 163 _ (by decide) (by decide) (by omega)]; exact h.hist a j ha hj
  · rw [f 145 62 (by decide) (by decide) (by decide)]; exact h.lai
  · intro j hj; rw [f 165 j (by decide) (by decide) (by omega)]; exact h.lie j hj
  · intro b hb; rw [f 177 b (by decide) (by decide) (by omega)]; exact h.bxm b hb
  · intro b j hb hx hj; rw [f 178 _ (by decide) (by decide) (by omega)]; exact h.bx b j hb hx hj
theorem c_later {v : Int32} (hC : yC t X IL) (hQ : ∀ IL', yC t (x_later X v) IL' → (∀ c, 145 ≤ c → IL'.1 c = IL.1 c) → IL'.2 = IL.2 → Q (zFx t, IL') (some (.int (r_later X v)))) : zcall xs (d + 1) 131 (zFx t, IL) [.ref 0, .int v] Q := by
  unfold x_later r_later at hQ
  have no : ylt X v = false → Q (zFx t, IL) (some (.int (-1))) := fun h => by
    rw [h] at hQ
    exact hQ IL hC (fun _ _ => rfl) rfl
  refine sX7_later t _ IL ?_
  rw [hC.tim]
  refine zdec (fun z => no (by unfold ylt; rw [decide_eq_true z]; rfl)) (fun z => zdec (fun z2 => no (by unfold ylt; rw [decide_eq_true z2, Bool.not_true, Bool.false_and, Bool.and_false])) (fun z2 => zdec (fun z3 => no (by unfold ylt; rw [decide_eq_true z3, Bool.not_true, Bool.and_false, Bool.and_false])) (fun z3 => ?_)))
  have hy : ylt X v = true := by unfold ylt; rw [decide_eq_false z, decide_eq_false z2, decide_eq_false z3]; rfl
  rw [hy, if_pos rfl, if_pos rfl] at hQ
  rw [zwi_at, if_pos rfl]
  refine hQ _ (hC.hear (fun c h1 h2 => zwi_ne (by omega)) rfl (by rw [zwi_at, if_neg (by decide)]) (by rw [zwi_at, if_neg (by decide)]; exact hC.cnt) (by rw [zwi_at, if_pos rfl]) ?_ ?_ ?_ ?_ ?_) (fun c hc => zwi_ne (by omega)) rfl
  · intro j hj; rw [zwi_ne (by decide)]; exact hC.sof j hj
  · intro j hj; rw [zwi_ne (by decide)]; exact hC.sno j hj
  · intro j hj; rw [zwi_ne (by decide)]; exact hC.sis j hj
  · intro j hj; rw [zwi_ne (by decide)]; exact hC.sto j hj
  · intro j hj; rw [zwi_ne (by decide)]; exact hC.sun j hj
theorem m_later {v : Int32} (hM : yM X IL) (hQ : ∀ IL', yM (x_later X v) IL' → (∀ c, c < 145 → IL'.1 c = IL.1 c) → IL'.2 = IL.2 → Q (zFx t, IL') (some (.int (r_later X v)))) : zcall xs (d + 1) 271 (zFx t, IL) [.ref 145, .int v] Q := by
  unfold x_later r_later at hQ
  have no : ylt X v = false → Q (zFx t, IL) (some (.int (-1))) := fun h => by
    rw [h] at hQ
    exact hQ IL hM (fun _ _ => rfl) rfl
  refine sX8_later t _ IL ?_
  rw [hM.tim]
  refine zdec (fun z => no (by unfold ylt; rw [decide_eq_true z]; rfl)) (fun z => zdec (fun z2 => no (by unfold ylt; rw [decide_eq_true z2, Bool.not_true, Bool.false_and, Bool.and_false])) (fun z2 => zdec (fun z3 => no (by unfold ylt; rw [decide_eq_true z3, Bool.not_true, Bool.and_false, Bool.and_false])) (fun z3 => ?_)))
  have hy : ylt X v = true := by unfold ylt; rw [decide_eq_false z, decide_eq_false z2, decide_eq_false z3]; rfl
  rw [hy, if_pos rfl, if_pos rfl] at hQ
  rw [zwi_at, if_pos rfl]
  have kc : ∀ c j, ¬ (c = 145 ∧ j = 72) → (zwi IL 145 72 (X.tim + v)).1 c j = IL.1 c j := fun c j h => by
    by_cases q : c = 145
    · subst q; rw [zwi_at, if_neg (by omega)]
    · rw [zwi_ne q]
  refine hQ _ (hM.hear (fun c j h1 h2 h3 => kc c j (by omega)) (by rw [kc 145 71 (by omega)]; exact hM.cnt) (by rw [zwi_at, if_pos rfl]) ?_ ?_ ?_ ?_ ?_) (fun c hc => zwi_ne (by omega)) rfl
  · intro j hj; rw [kc 169 j (by omega)]; exact hM.sof j hj
  · intro j hj; rw [kc 170 j (by omega)]; exact hM.sno j hj
  · intro j hj; rw [kc 171 j (by omega)]; exact hM.sto j hj
  · intro j hj; rw [kc 172 j (by omega)]; exact hM.sun j hj
  · intro j hj; rw [kc 173 j (by omega)]; exact hM.sis j hj
theorem c_untell {x : Int32} (hI : yI X) (hC : yC t X IL) (hQ : ∀ IL', yC t (x_untell X x) IL' → (∀ c, 145 ≤ c → IL'.1 c = IL.1 c) → IL'.2 = IL.2 → Q (zFx t, IL') (some (.int (r_untell X x)))) : zcall xs (d + 2) 130 (zFx t, IL) [.ref 0, .int x] Q := by
  have c30 := hI.cnt
  unfold x_untell r_untell at hQ
  have no : yunb X x = false → Q (zFx t, IL) (some (.int 0)) := fun h => by
    rw [h] at hQ
    exact hQ IL hC (fun _ _ => rfl) rfl
  refine sX7_untell t _ IL (sX2_takeBack t _ IL ?_)
  rw [hC.cnt]
  refine zdec (fun z => kI (no (by unfold yunb; rw [decide_eq_true z]; rfl))) (fun z => zdec (fun w => ?_) (fun w => kI (no (by unfold yunb; rw [decide_eq_false w, Bool.false_and, Bool.and_false]))))
  obtain ⟨i, hi, rfl⟩ := y_nat z w (by omega)
  refine zix_n (by omega) (by omega) ?_
  rw [ycl (by omega), hC.sun i hi]
  have hy : yunb X (nI i) = decide (X.sun i = -1) := by unfold yunb; rw [decide_eq_false z, decide_eq_true w, ycl (by omega)]; rfl
  by_cases e : X.sun i = -1
  · rw [decide_eq_true e] at hy
    rw [hy, if_pos rfl, if_pos rfl, ycl (by omega)] at hQ
    rw [if_pos e]
    refine zdec (fun _ => zix_n (by omega) (by omega) (kI ?_)) (fun q => absurd rfl q)
    rw [hC.tim]
    have t1 := hI.tim
    have ne : ¬ X.tim = -1 := fun q => by
      have := t1.1
      rw [q] at this
      exact absurd this (by decide)
    refine hQ _ (hC.hear (fun c h1 h2 => zwi_ne (by omega)) rfl (by rw [zwi_ne (by decide)]) (by rw [zwi_ne (by decide)]; exact hC.cnt) (by rw [zwi_ne (by decide)]; exact hC.tim) ?_ ?_ ?_ ?_ (fun j hj => ?_)) (fun c hc => zwi_ne (by omega)) rfl
    · intro j hj; rw [zwi_ne (by decide)]; exact hC.sof j hj
    · intro j hj; rw [zwi_ne (by decide)]; exact hC.sno j hj
    · intro j hj; rw [zwi_ne (by decide)]; exact hC.sis j hj
    · intro j hj; rw [zwi_ne (by decide)]; exact hC.sto j hj
    · rw [zwi_at]
      by_cases q : j = i
      · subst q
        rw [if_pos rfl, yup1_at, if_neg ne]
      · rw [if_neg q, yup1_ne q]
        exact hC.sun j hj
  · rw [decide_eq_false e] at hy
    rw [if_neg e]
    refine zdec (fun q => absurd q ?_) (fun _ => kI (no hy))
    have := (hI.sun i hi).resolve_left e
    intro q
    have := this.2
    rw [q] at this
    exact absurd this (by decide)
theorem m_untell {x : Int32} (hI : yI X) (hM : yM X IL) (hQ : ∀ IL', yM (x_untell X x) IL' → (∀ c, c < 145 → IL'.1 c = IL.1 c) → IL'.2 = IL.2 → Q (zFx t, IL') (some (.int (r_untell X x)))) : zcall xs (d + 2) 270 (zFx t, IL) [.ref 145, .int x] Q := by
  have c30 := hI.cnt
  unfold x_untell r_untell at hQ
  have no : yunb X x = false → Q (zFx t, IL) (some (.int 0)) := fun h => by
    rw [h] at hQ
    exact hQ IL hM (fun _ _ => rfl) rfl
  refine sX8_untell t _ IL ?_
  rw [hM.cnt]
  refine c_isIn (fun z => kI (z0 (no ?_))) (fun z w => kI (z1 ?_))
  · unfold yunb
    by_cases a : x < 0
    · rw [decide_eq_true a]; rfl
    · rw [decide_eq_false (p := x < nI X.cnt) (fun b => z ⟨a, (y_pred (by omega) a).mpr b⟩), Bool.false_and, Bool.and_false]
  · have w' := (y_pred (by omega) z).mp w
    obtain ⟨i, hi, rfl⟩ := y_nat z w' (by omega)
    refine zix_n (by omega) (by omega) ?_
    rw [ycl (by omega), hM.sun i hi]
    have hy : yunb X (nI i) = decide (X.sun i = -1) := by unfold yunb; rw [decide_eq_false z, decide_eq_true w', ycl (by omega)]; rfl
    by_cases e : X.sun i = -1
    · rw [decide_eq_true e] at hy
      rw [hy, if_pos rfl, if_pos rfl, ycl (by omega)] at hQ
      refine zdec (fun _ => zix_n (by omega) (by omega) ?_) (fun q => absurd (by rw [e]; decide) q)
      rw [hM.tim]
      refine hQ _ (hM.hear (fun c j h1 h2 h3 => by rw [zwi_ne (by omega)]) (by rw [zwi_ne (by decide)]; exact hM.cnt) (by rw [zwi_ne (by decide)]; exact hM.tim) ?_ ?_ ?_ (fun j hj => ?_) ?_) (fun c hc => zwi_ne (by omega)) rfl
      · intro j hj; rw [zwi_ne (by decide)]; exact hM.sof j hj
      · intro j hj; rw [zwi_ne (by decide)]; exact hM.sno j hj
      · intro j hj; rw [zwi_ne (by decide)]; exact hM.sto j hj
      · rw [zwi_at]
        by_cases q : j = i
        · subst q
          rw [if_pos rfl, yup1_at]
        · rw [if_neg q, yup1_ne q]
          exact hM.sun j hj
      · intro j hj; rw [zwi_ne (by decide)]; exact hM.sis j hj
    · rw [decide_eq_false e] at hy
      refine zdec (fun q => absurd q ?_) (fun _ => no hy)
      have := (hI.sun i hi).resolve_left e
      intro q
      rw [Int32.lt_iff_toInt_lt] at q
      have := this.1
      have b0 : (0 : Int32).toInt = 0 := by decide
      omega
theorem c_misLastOut {H : yH} (hH : yOK H) (hM : yMH H IL) (hQ : Q (zFx t, IL) (some (.int (if yope H then 1 else 0)))) : zcall xs (d + 1) 268 (zFx t, IL) [.ref 145] Q := by
  have n7 := hH.n7
  unfold yope at hQ
  refine sX8_isLastOut t IL ?_
  rw [hM.mem, hM.out]
  rcases Nat.eq_zero_or_pos H.n with h | h
  · rw [decide_eq_false (show ¬ 0 < H.n by omega)] at hQ
    exact zdec (fun z => absurd z (by rw [h]; decide)) (fun _ => hQ)
  · rw [decide_eq_true h, Bool.true_and] at hQ
    obtain ⟨m, hm⟩ : ∃ m, H.n = m + 1 := ⟨H.n - 1, by omega⟩
    rw [hm, show m + 1 - 1 = m by omega] at hQ
    rw [hm, nI_pred]
    refine zdec (fun _ => zdec (fun g => ?_) (fun g => ?_)) (fun z => absurd (nI_lt (a := 0) (by omega) (by omega)) z)
    · rw [(zb_1 _ m (by omega)).mp g] at hQ; exact hQ
    · rw [y_bit (fun q => g ((zb_1 _ m (by omega)).mpr q))] at hQ; exact hQ
theorem y_nar {b : Bool} : vp_nar .boolean (if b then 1 else 0 : Int32) = if b then 1 else 0 := by cases b <;> rfl
theorem c_heard {n no : Int32} {b : Bool} (hI : yI X) (hC : yC t X IL) (hQ : ∀ IL', yC t (x_heard X n no b) IL' → (∀ c, 145 ≤ c → IL'.1 c = IL.1 c) → IL'.2 = IL.2 → Q (zFx t, IL') (some (.int (r_heard X n no)))) : zcall xs (d + 2) 129 (zFx t, IL) [.ref 0, .int n, .int no, .int (if b then 1 else 0)] Q := by
  have c30 := hI.cnt
  unfold x_heard r_heard at hQ
  have no' : yhb X n no = false → Q (zFx t, IL) (some (.int (-1))) := fun h => by
    rw [h] at hQ
    exact hQ IL hC (fun _ _ => rfl) rfl
  have both : ∀ {p : Prop} [Decidable p], yhb X n no = false → zif2 (decide p) (zkI (zFx t) (fun IL1 y1 => Q (zFx t, IL1) (some (.int y1))) (zFx t, IL) (some (.int (-1)))) (zkI (zFx t) (fun IL1 y1 => Q (zFx t, IL1) (some (.int y1))) (zFx t, IL) (some (.int (-1)))) := fun h => zdec (fun _ => kI (no' h)) (fun _ => kI (no' h))
  refine sX7_heard t _ _ _ IL (sX2_tell t _ _ _ IL ?_)
  refine zdec (fun z => both ?_) (fun z1 => zdec (fun z => both ?_) (fun z2 => zdec (fun z => both ?_) (fun z3 => zdec (fun z => both ?_) (fun z4 => ?_))))
  · unfold yhb; rw [decide_eq_true z]; rfl
  · unfold yhb; rw [decide_eq_true z, Bool.not_true, Bool.and_false, Bool.false_and]
  · unfold yhb; rw [decide_eq_true z, Bool.not_true, Bool.false_and, Bool.false_and, Bool.and_false]
  · unfold yhb; rw [decide_eq_true z, Bool.not_true, Bool.and_false, Bool.false_and, Bool.and_false]
  have hy : yhb X n no = (yope X.H && decide (X.cnt < 30)) := by
    unfold yhb
    rw [decide_eq_false z1, decide_eq_false z2, decide_eq_false z3, decide_eq_false z4]
    rfl
  have q1 : ∀ (A : zIL) j v, (zwi A 129 j v).1 128 = A.1 128 := fun A j v => zwi_ne (by decide)
  have q2 : ∀ (A : zIL) j v, (zwi A 130 j v).1 128 = A.1 128 := fun A j v => zwi_ne (by decide)
  have q3 : ∀ (A : zIL) j v, (zwi A 131 j v).1 128 = A.1 128 := fun A j v => zwi_ne (by decide)
  have q4 : ∀ (A : zIL) j v, (zwi A 132 j v).1 128 = A.1 128 := fun A j v => zwi_ne (by decide)
  have q5 : ∀ (A : zIL) j v, (zwi A 133 j v).1 128 = A.1 128 := fun A j v => zwi_ne (by decide)
  simp only [q1, q2, q3, q4, q5]
  rw [hC.cnt, hC.tim, hC.ope, y_nar]
  refine zbb (fun e => kI (no' (by rw [hy, e]; rfl))) (fun e => ?_)
  rw [e, Bool.true_and] at hy
  rcases Nat.lt_or_ge X.cnt 30 with h | h
  · rw [decide_eq_true h] at hy
    rw [hy, if_pos rfl, if_pos rfl] at hQ
    obtain ⟨k, hk, rfl⟩ := y_n6 z1 z2
    refine zdec (fun _ => ?_) (fun z => absurd (nI_lt (b := 30) h (by omega)) z)
    refine zix_n h (by decide) (zix_n h (by decide) (zix_n h (by decide) (zix_n h (by decide) (zix_n h (by decide) ?_))))
    rw [ycl (by omega), nI_1]
    have q6 : ∀ (A : zIL) v, (zwi A 128 0 v).1 128 0 = v := fun A v => by rw [zwi_at, if_pos rfl]
    rw [q6, nI_pred]
    rw [ycl (by omega)] at hQ
    refine kI (hQ _ (hC.hear (fun c h1 h2 => ?_) rfl ?_ ?_ ?_ (fun j hj => ?_) (fun j hj => ?_) (fun j hj => ?_) (fun j hj => ?_) (fun j hj => ?_)) (fun c hc => ?_) rfl)
    · rw [zwi_ne (by omega), zwi_ne (by omega), zwi_ne (by omega), zwi_ne (by omega), zwi_ne (by omega), zwi_ne (by omega)]
    · rw [zwi_at, if_neg (by decide), q5, q4, q3, q2, q1]
    · rw [zwi_at, if_pos rfl]
    · rw [zwi_at, if_neg (by decide), q5, q4, q3, q2, q1]; exact hC.tim
    · rw [zwi_ne (by decide), zwi_ne (by decide), zwi_ne (by decide), zwi_ne (by decide), zwi_ne (by decide), zwi_at]
      by_cases q : j = X.cnt
      · rw [if_pos q, q, yup1_at]
      · rw [if_neg q, yup1_ne q]; exact hC.sof j (by omega)
    · rw [zwi_ne (by decide), zwi_ne (by decide), zwi_ne (by decide), zwi_ne (by decide), zwi_at]
      by_cases q : j = X.cnt
      · rw [if_pos q, q, yup1_at]
      · rw [if_neg q, yup1_ne q, zwi_ne (by decide)]; exact hC.sno j (by omega)
    · rw [zwi_ne (by decide), zwi_ne (by decide), zwi_ne (by decide), zwi_at]
      by_cases q : j = X.cnt
      · rw [if_pos q, q, yup1_at]
      · rw [if_neg q, yup1_ne q, zwi_ne (by decide), zwi_ne (by decide)]; exact hC.sis j (by omega)
    · rw [zwi_ne (by decide), zwi_ne (by decide), zwi_at]
      by_cases q : j = X.cnt
      · rw [if_pos q, q, yup1_at]
      · rw [if_neg q, yup1_ne q, zwi_ne (by decide), zwi_ne (by decide), zwi_ne (by decide)]; exact hC.sto j (by omega)
    · rw [zwi_ne (by decide), zwi_at]
      by_cases q : j = X.cnt
      · rw [if_pos q, q, yup1_at, if_pos rfl]
      · rw [if_neg q, yup1_ne q, zwi_ne (by decide), zwi_ne (by decide), zwi_ne (by decide), zwi_ne (by decide)]; exact hC.sun j (by omega)
    · rw [zwi_ne (by omega), zwi_ne (by omega), zwi_ne (by omega), zwi_ne (by omega), zwi_ne (by omega), zwi_ne (by omega)]
  · exact zdec (fun z => absurd z (nI_nlt (b := 30) h (by omega))) (fun _ => kI (no' (by rw [hy, decide_eq_false (by omega)])))
theorem m_heard {n no : Int32} {b : Bool} (hI : yI X) (hM : yM X IL) (hQ : ∀ IL', yM (x_heard X n no b) IL' → (∀ c, c < 145 → IL'.1 c = IL.1 c) → IL'.2 = IL.2 → Q (zFx t, IL') (some (.int (r_heard X n no)))) : zcall xs (d + 2) 269 (zFx t, IL) [.ref 145, .int n, .int no, .int (if b then 1 else 0)] Q := by
  have c30 := hI.cnt
  unfold x_heard r_heard at hQ
  have no' : yhb X n no = false → Q (zFx t, IL) (some (.int (-1))) := fun h => by
    rw [h] at hQ
    exact hQ IL hM (fun _ _ => rfl) rfl
  refine sX8_heard t _ _ _ IL (c_isIn (fun z => kI (z0 (no' ?_))) (fun z1' z2 => kI (z1 (c_isIn (fun z => kI (z0 (no' ?_))) (fun z3 z4 => kI (z1 ?_))))))
  · unfold yhb
    by_cases a : n < 0
    · rw [decide_eq_true a]; rfl
    · rw [decide_eq_true (p := 6 < n) (Decidable.byContradiction (fun b => z ⟨a, b⟩)), Bool.not_true, Bool.and_false, Bool.false_and]
  · unfold yhb
    by_cases a : no < 0
    · rw [decide_eq_true a, Bool.not_true, Bool.false_and, Bool.false_and, Bool.and_false]
    · rw [decide_eq_true (p := 99 < no) (Decidable.byContradiction (fun b => z ⟨a, b⟩)), Bool.not_true, Bool.and_false, Bool.false_and, Bool.and_false]
  have hy : yhb X n no = (yope X.H && decide (X.cnt < 30)) := by
    unfold yhb
    rw [decide_eq_false z1', decide_eq_false z2, decide_eq_false z3, decide_eq_false z4]
    rfl
  refine c_misLastOut hI.H hM.H (kI (zbb (fun e => no' (by rw [hy, e]; rfl)) (fun e => ?_)))
  rw [e, Bool.true_and] at hy
  have q1 : ∀ (A : zIL) j v, (zwi A 169 j v).1 145 = A.1 145 := fun A j v => zwi_ne (by decide)
  have q2 : ∀ (A : zIL) j v, (zwi A 170 j v).1 145 = A.1 145 := fun A j v => zwi_ne (by decide)
  have q3 : ∀ (A : zIL) j v, (zwi A 173 j v).1 145 = A.1 145 := fun A j v => zwi_ne (by decide)
  have q4 : ∀ (A : zIL) j v, (zwi A 171 j v).1 145 = A.1 145 := fun A j v => zwi_ne (by decide)
  have q5 : ∀ (A : zIL) j v, (zwi A 172 j v).1 145 = A.1 145 := fun A j v => zwi_ne (by decide)
  simp only [q1, q2, q3, q4, q5]
  rw [hM.cnt, hM.tim, y_nar]
  rcases Nat.lt_or_ge X.cnt 30 with h | h
  · rw [decide_eq_true h] at hy
    rw [hy, if_pos rfl, if_pos rfl] at hQ
    obtain ⟨k, hk, rfl⟩ := y_n6 z1' z2
    refine zdec (fun z => absurd ((nI_eq (b := 30) (by omega) (by omega)).mp z) (by omega)) (fun _ => ?_)
    refine zix_n h (by decide) (zix_n h (by decide) (zix_n h (by decide) (zix_n h (by decide) (zix_n h (by decide) ?_))))
    rw [ycl (by omega), nI_1]
    have q6 : ∀ (A : zIL) v, (zwi A 145 71 v).1 145 71 = v := fun A v => by rw [zwi_at, if_pos rfl]
    rw [q6, nI_pred]
    rw [ycl (by omega)] at hQ
    refine hQ _ (hM.hear (fun c j h1 h2 h3 => ?_) ?_ ?_ (fun j hj => ?_) (fun j hj => ?_) (fun j hj => ?_) (fun j hj => ?_) (fun j hj => ?_)) (fun c hc => ?_) rfl
    · by_cases q : c = 145
      · subst q
        rw [zwi_at, if_neg (by omega), q5, q4, q3, q2, q1]
      · rw [zwi_ne q, zwi_ne (by omega), zwi_ne (by omega), zwi_ne (by omega), zwi_ne (by omega), zwi_ne (by omega)]
    · rw [zwi_at, if_pos rfl]
    · rw [zwi_at, if_neg (by decide), q5, q4, q3, q2, q1]; exact hM.tim
    · rw [zwi_ne (by decide), zwi_ne (by decide), zwi_ne (by decide), zwi_ne (by decide), zwi_ne (by decide), zwi_at]
      by_cases q : j = X.cnt
      · rw [if_pos q, q, yup1_at]
      · rw [if_neg q, yup1_ne q]; exact hM.sof j (by omega)
    · rw [zwi_ne (by decide), zwi_ne (by decide), zwi_ne (by decide), zwi_ne (by decide), zwi_at]
      by_cases q : j = X.cnt
      · rw [if_pos q, q, yup1_at]
      · rw [if_neg q, yup1_ne q, zwi_ne (by decide)]; exact hM.sno j (by omega)
    · rw [zwi_ne (by decide), zwi_ne (by decide), zwi_at]
      by_cases q : j = X.cnt
      · rw [if_pos q, q, yup1_at]
      · rw [if_neg q, yup1_ne q, zwi_ne (by decide), zwi_ne (by decide), zwi_ne (by decide)]; exact hM.sto j (by omega)
    · rw [zwi_ne (by decide), zwi_at]
      by_cases q : j = X.cnt
      · rw [if_pos q, q, yup1_at]
      · rw [if_neg q, yup1_ne q, zwi_ne (by decide), zwi_ne (by decide), zwi_ne (by decide), zwi_ne (by decide)]; exact hM.sun j (by omega)
    · rw [zwi_ne (by decide), zwi_ne (by decide), zwi_ne (by decide), zwi_at]
      by_cases q : j = X.cnt
      · rw [if_pos q, q, yup1_at]
      · rw [if_neg q, yup1_ne q, zwi_ne (by decide), zwi_ne (by decide)]; exact hM.sis j (by omega)
    · rw [zwi_ne (by omega), zwi_ne (by omega), zwi_ne (by omega), zwi_ne (by omega), zwi_ne (by omega), zwi_ne (by omega)]
  · have e30 : X.cnt = 30 := by omega
    exact zdec (fun _ => no' (by rw [hy, decide_eq_false (by omega)])) (fun z => absurd (by rw [e30]; rfl) z)
end HEAR
