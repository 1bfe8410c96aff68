/-! read, oil, change, image, back: the class's side -/
def yub (H : yH) (S : Nat → Int32) (x : Int32) : Bool := !decide (x < 0) && (decide (x < nI H.k) && !bt (S 8) x.toNatClampNeg)
theorem yub_n {H : yH} {S : Nat → Int32} {x : Int32} (h : ∀ v, yun H S x v = -1) : yub H S x = false := by
  have h0 := h 0
  unfold yun at h0
  unfold yub
  by_cases a : x < 0
  · rw [decide_eq_true a]; rfl
  · rw [if_neg a] at h0
    by_cases b : x < nI H.k
    · rw [if_pos b] at h0
      cases e : bt (S 8) x.toNatClampNeg
      · rw [e] at h0
        exact absurd h0 (by decide)
      · rw [decide_eq_false a, decide_eq_true b]; rfl
    · rw [decide_eq_false b, Bool.false_and, Bool.and_false]
theorem yub_y {H : yH} {S : Nat → Int32} {c : Nat} (hk : H.k ≤ 6) (hc : c < H.k) (hb : bt (S 8) c = false) : yub H S (nI c) = true := by
  unfold yub
  rw [decide_eq_false (nI_pos (by omega)), decide_eq_true (nI_lt hc (by omega)), ycl (by omega), hb]
  rfl
def yread (X : yX) (c : Nat) (fa : Int32) : yX := yW (yact X) (ypun X.H (ysit X.H (-1) (X.H.sh c) fa c X.S)) (yact X).don (yact X).und (yact X).hi
def x_read (X : yX) (x fa : Int32) : yX := if yub X.H X.S x then yread X x.toNatClampNeg fa else X
def yob (X : yX) (x : Int32) : Bool := !decide (x < 0) && (decide (x < nI X.H.n) && !decide (X.S x.toNatClampNeg = 0))
def yoil (X : yX) (m : Nat) : yX := yW (yact X) (yS' X.S m (X.S m - 1)) (yact X).don (yact X).und (yact X).hi
def x_oil (X : yX) (x : Int32) : yX := if yob X x then yoil X x.toNatClampNeg else X
def r_oil (X : yX) (x : Int32) : Int32 := if yob X x then X.S x.toNatClampNeg - 1 else -1
def ychange (X : yX) : yX := yW (yact X) (ychg X.H X.S) (yact X).don (yact X).und (yact X).hi
def x_change (X : yX) : yX := if X.H.n = 0 then X else ychange X
def r_change (X : yX) : Int32 := if X.H.n = 0 then -1 else ychg X.H X.S 7
def ybb (x : Int32) : Bool := !decide (x < 0) && decide (x < 3)
def yimg (X : yX) (b : Nat) : yX := (X.w_bxf (fun j => decide (j = b) || X.bxf j)).w_bx (fun j => if j = b then X.S else X.bx j)
def x_image (X : yX) (x : Int32) : yX := if ybb x then yimg X x.toNatClampNeg else X
def r_image (X : yX) (x : Int32) : Int32 := if ybb x then yre X.S else -1
def yback (X : yX) (b : Nat) : yX := yW X (X.bx b) 0 0 X.hi
def x_back (X : yX) (x : Int32) : yX := if ybb x && X.bxf x.toNatClampNeg then yback X x.toNatClampNeg else X
def r_back (X : yX) (x : Int32) : Int32 := if ybb x && X.bxf x.toNatClampNeg then yre (X.bx x.toNatClampNeg) else -1
theorem yW_W {X : yX} {a a' : Nat → Int32} {b c : Nat} {e : Nat → Nat → Int32} : yW (yW X a b c e) a' (yW X a b c e).don (yW X a b c e).und (yW X a b c e).hi = yW X a' b c e := rfl
theorem yI_act {X : yX} (h : yI X) : yI (yact X) := by
  have dn := h.dn
  have ed : (yact X).don = ydk X := rfl
  have eu : (yact X).und = 0 := rfl
  have hd : ydk X ≤ 40 := by unfold ydk; split <;> omega
  refine yI.mk h.H h.S h.len h.tp (by rw [ed, eu]; omega) (fun a ha => ?_) h.lai h.cnt h.tim h.sof h.sno h.sun h.bx
  show ySB X.H (yhk X a)
  rw [ed, eu] at ha
  unfold ydk at ha
  unfold yhk
  split
  · rw [if_pos ‹_›] at ha
    split
    · exact h.S
    · exact h.hi a (by omega)
  · rw [if_neg ‹_›] at ha
    split
    · exact h.S
    · exact h.hi (a + 1) (by omega)
theorem yI_W {X : yX} (h : yI X) {S' : Nat → Int32} {don' und' : Nat} {hi' : Nat → Nat → Int32} (hS : ySB X.H S') (hd : don' + und' ≤ 40) (hh : ∀ a, a < don' + und' → ySB X.H (hi' a)) : yI (yW X S' don' und' hi') := yI.mk h.H hS h.len h.tp hd hh h.lai h.cnt h.tim h.sof h.sno h.sun h.bx
section ACTS2
variable {xs : List Int32} {d : Nat} {Q : zQ} {t : Bool} {IL : zIL} {X : yX} {fa : Int32}
theorem c_read {x : Int32} (hI : yI X) (hC : yC t X IL) (hfa : fa = 0 ∨ fa = 1) (hQ : ∀ IL', yC t (x_read X x fa) IL' → (∀ c, 145 ≤ c → IL'.1 c = IL.1 c) → IL'.2 = IL.2 → Q (zFx t, IL') (some (.int (yun X.H X.S x (if ypas X.H (-1) (X.H.sh x.toNatClampNeg) fa X.S then 1 else 0))))) : zcall xs (d + 6) 94 (zFx t, IL) [.ref 0, .int x, .int fa] Q := by
  have zl := zH_le t
  have k6 := hI.H.k6
  refine sX7_read t _ _ IL (c_isUnread hI.H hC.H hC.S (fun h => kI (z0 ?_)) (fun c hc e hb h => kI (z1 ?_)))
  · have := hQ IL (by unfold x_read; rw [yub_n h]; exact hC) (fun _ _ => rfl) rfl
    rw [h] at this
    exact this
  · subst e
    have ex : x_read X (nI c) fa = yread X c fa := by unfold x_read; rw [yub_y k6 hc hb, if_pos rfl, ycl (by omega)]
    rw [ex, h, ycl (by omega)] at hQ
    refine c_keep hI hC (fun IL1 c1 g1 l1 => kV ?_)
    have cH : yCH t X.H IL1 := c1.H
    have cS : yCS 22 X.S IL1 := c1.S
    refine c_sit (zSt_22 t) (by decide) hI.H hfa hc cH cS hI.S (fun IL2 f2 s2 _ _ => kI ?_)
    have c2 := c1.wS f2 s2
    have cH2 : yCH t X.H IL2 := c2.H
    refine c_drawPun (zSt_22 t) (by decide) hI.H cH2 s2 (fun IL3 f3 s3 => kV ?_)
    have f3' : zfr [22, 22 + 1, zH t + 5, zH t + 7] IL2 IL3 := zfr_le f3 (fun c hc => by simp only [List.mem_cons, List.not_mem_nil, or_false] at hc ⊢; omega)
    have c3 := c2.wS f3' s3
    rw [yW_W] at c3
    have hi : ∀ {A B : zIL}, zfr [22, 22 + 1, zH t + 5, zH t + 7] A B → ∀ c, 145 ≤ c → B.1 c = A.1 c := fun f c hc => f.1 c (by simp only [List.mem_cons, List.not_mem_nil, or_false]; omega)
    have := hQ IL3 c3 (fun c hc => by rw [hi f3' c hc, hi f2 c hc, g1 c hc]) (by rw [f3.2, f2.2, l1])
    revert this
    cases ypas X.H (-1) (X.H.sh c) fa X.S <;> exact id
theorem c_oil {x : Int32} (hI : yI X) (hC : yC t X IL) (hQ : ∀ IL', yC t (x_oil X x) IL' → (∀ c, 145 ≤ c → IL'.1 c = IL.1 c) → IL'.2 = IL.2 → Q (zFx t, IL') (some (.int (r_oil X x)))) : zcall xs (d + 4) 95 (zFx t, IL) [.ref 0, .int x] Q := by
  have zl := zH_le t
  have n7 := hI.H.n7
  have no : yob X x = false → Q (zFx t, IL) (some (.int (-1))) := fun h => by
    have := hQ IL (by unfold x_oil; rw [h]; exact hC) (fun _ _ => rfl) rfl
    unfold r_oil at this
    rw [h] at this
    exact this
  refine sX7_oil t _ IL (c_isOut hI.H hC.H hC.S (fun h => kI (z0 (no ?_))) (fun m hm e ho => kI (z1 ?_)))
  · unfold yob
    by_cases a : x < 0
    · rw [decide_eq_true a]; rfl
    · by_cases b : x < nI X.H.n
      · obtain ⟨m, hm, rfl⟩ := y_nat a b (by omega)
        have h0 := h 0
        rw [if_neg a, if_pos b] at h0
        cases eo : bt (X.S 7) (nI m).toNatClampNeg
        · rw [ycl (by omega)] at eo ⊢
          rw [hI.S.inn m (by omega) eo, decide_eq_true rfl, Bool.not_true, Bool.and_false, Bool.and_false]
        · rw [eo] at h0
          exact absurd h0 (by decide)
      · rw [decide_eq_false b, Bool.false_and, Bool.and_false]
  · subst e
    refine zix_n (by omega) (by omega) ?_
    rw [ycl (by omega), show IL.1 23 m = X.S m from hC.S.no m (by omega)]
    obtain ⟨v, hv, ev⟩ := yin_ex (n := 99) (hI.S.no m (by omega))
    rcases Nat.eq_zero_or_pos v with h | h
    · refine zdec (fun z => absurd z (by rw [ev, h]; decide)) (fun _ => no ?_)
      unfold yob
      rw [ycl (by omega), ev, h, decide_eq_true (p := nI 0 = 0) rfl, Bool.not_true, Bool.and_false, Bool.and_false]
    · have hy : yob X (nI m) = true := by
        unfold yob
        rw [ycl (by omega), decide_eq_false (nI_pos (by omega)), decide_eq_true (nI_lt hm (by omega)), ev, decide_eq_false (nI_ne0 h (by omega))]
        rfl
      have ex : x_oil X (nI m) = yoil X m := by unfold x_oil; rw [hy, if_pos rfl, ycl (by omega)]
      have er : r_oil X (nI m) = X.S m - 1 := by unfold r_oil; rw [hy, if_pos rfl, ycl (by omega)]
      rw [ex, er] at hQ
      refine zdec (fun _ => c_keep hI hC (fun IL1 c1 g1 l1 => kV (zix_n (by omega) (by omega) (zix_n (by omega) (by omega) (zix_n (by omega) (by omega) ?_))))) (fun z => absurd (by rw [ev]; exact nI_lt (a := 0) h (by omega)) z)
      have cS : yCS 22 X.S IL1 := c1.S
      have e1 : IL1.1 23 m = X.S m := cS.no m (by omega)
      rw [e1, zwi_at, if_pos rfl]
      have f2 : zfr [22, 22 + 1, zH t + 5, zH t + 7] IL1 (zwi IL1 23 m (X.S m - 1)) := zfr_wi (by simp)
      have h7 : ∀ j, 7 ≤ j → yS' X.S m (X.S m - 1) j = X.S j := fun j hj => by unfold yS'; rw [if_neg (by omega)]
      refine hQ _ (c1.wS f2 ?_) (fun c hc => by rw [zwi_ne (by omega), g1 c hc]) (by show IL1.2 = _; rw [l1])
      have q := cS
      unfold yCS
      refine ⟨fun j hj => ?_, ?_, ?_, ?_, ?_⟩
      · unfold yS'
        rw [zwi_at]
        by_cases e : j = m
        · rw [if_pos e, if_pos e]
        · rw [if_neg e, if_neg e]; exact q.no j hj
      · rw [zwi_ne (by decide), h7 7 (by decide)]; exact q.out
      · rw [zwi_ne (by decide), h7 8 (by decide)]; exact q.read
      · rw [zwi_ne (by decide), h7 9 (by decide)]; exact q.car
      · rw [zwi_ne (by decide), h7 10 (by decide)]; exact q.seed
theorem c_change (hI : yI X) (hC : yC t X IL) (hQ : ∀ IL', yC t (x_change X) IL' → (∀ c, 145 ≤ c → IL'.1 c = IL.1 c) → IL'.2 = IL.2 → Q (zFx t, IL') (some (.int (r_change X)))) : zcall xs (d + 4) 96 (zFx t, IL) [.ref 0] Q := by
  have zl := zH_le t
  have n7 := hI.H.n7
  unfold x_change r_change at hQ
  refine sX7_change t IL ?_
  rw [hC.H.mem]
  refine zdec (fun z => ?_) (fun z => ?_)
  · have n0 : X.H.n = 0 := (nI_eq (b := 0) (by omega) (by omega)).mp z
    rw [if_pos n0, if_pos n0] at hQ
    exact hQ IL hC (fun _ _ => rfl) rfl
  · have n0 : ¬ X.H.n = 0 := fun e => z (by rw [e]; rfl)
    rw [if_neg n0, if_neg n0] at hQ
    refine c_keep hI hC (fun IL1 c1 g1 l1 => kV ?_)
    have cH : yCH t X.H IL1 := c1.H
    have cS : yCS 22 X.S IL1 := c1.S
    refine c_handOver (zSt_22 t) (by decide) hI.H cH cS (fun IL2 f2 s2 => kV ?_)
    have f2' : zfr [22, 22 + 1, zH t + 5, zH t + 7] IL1 IL2 := zfr_le f2 (fun c hc => by simp only [List.mem_cons, List.not_mem_nil, or_false] at hc ⊢; omega)
    have := hQ IL2 (c1.wS f2' s2) (fun c hc => by rw [f2.1 c (by simp only [List.mem_cons, List.not_mem_nil, or_false]; omega), g1 c hc]) (by rw [f2.2, l1])
    rw [s2.out]
    exact this
theorem y_b3 {x : Int32} (h0 : ¬ x < 0) (h : x < 3) : ∃ b, b < 3 ∧ x = nI b := y_nat (n := 3) h0 h (by decide)
theorem ybb_y {b : Nat} (hb : b < 3) : ybb (nI b) = true := by
  show (!decide (nI b < 0) && decide (nI b < nI 3)) = true
  rw [decide_eq_false (nI_pos (by omega)), decide_eq_true (nI_lt (b := 3) hb (by omega))]
  rfl
theorem c_image {x : Int32} (hI : yI X) (hC : yC t X IL) (hQ : ∀ IL', yC t (x_image X x) IL' → (∀ c, 145 ≤ c → IL'.1 c = IL.1 c) → IL'.2 = IL.2 → Q (zFx t, IL') (some (.int (r_image X x)))) : zcall xs (d + 2) 135 (zFx t, IL) [.ref 0, .int x] Q := by
  have k6 := hI.H.k6
  unfold x_image r_image at hQ
  have no : ybb x = false → Q (zFx t, IL) (some (.int (-1))) := fun h => by
    rw [h] at hQ
    exact hQ IL hC (fun _ _ => rfl) rfl
  refine sX7_image t _ IL (zdec (fun z => no (by unfold ybb; rw [decide_eq_true z]; rfl)) (fun z => zdec (fun w => ?_) (fun w => no (by unfold ybb; rw [decide_eq_false w, Bool.and_false]))))
  obtain ⟨b, hb, rfl⟩ := y_b3 z w
  rw [ybb_y hb, if_pos rfl, if_pos rfl, ycl (by omega)] at hQ
  refine zix_n hb (by decide) ?_
  rw [ycl (by omega), zR_b t hb]
  show zck (zS (zFx t, IL) (139 + 2 * b)) 6 _
  rw [(zSt_b t hb).1, zck_r]
  refine c_copy (zSt_b t hb) (zSt_22 t) ⟨by omega, by omega, by omega⟩ hC.S (fun IL2 f2 s2 => kV (c_bitCount (kI ?_)))
  have kc : ∀ c, c ≠ 0 → c ≠ 139 + 2 * b → c ≠ 139 + 2 * b + 1 → (zwi IL2 0 9 (IL2.1 0 9 ||| (1 <<< (nI b &&& 31)))).1 c = IL.1 c := fun c h0 h1 h2 => by
    rw [zwi_ne h0, f2.1 c (by simp only [List.mem_cons, List.not_mem_nil, or_false]; omega)]
  have k0 : IL2.1 0 = IL.1 0 := f2.1 0 (by simp only [List.mem_cons, List.not_mem_nil, or_false]; omega)
  have e2 : (zwi IL2 0 9 (IL2.1 0 9 ||| (1 <<< (nI b &&& 31)))).1 22 2 = X.S 8 := by rw [kc 22 (by decide) (by omega) (by omega)]; exact hC.S.read
  rw [e2, y_cnt (fun i hi => hI.S.read i (by omega))]
  refine hQ _ ?_ (fun c hc => kc c (by omega) (by omega) (by omega)) (by show IL2.2 = _; rw [f2.2])
  have g0 : ∀ j, j ≠ 9 → (zwi IL2 0 9 (IL2.1 0 9 ||| (1 <<< (nI b &&& 31)))).1 0 j = IL.1 0 j := fun j hj => by rw [zwi_at, if_neg hj, k0]
  have g : ∀ c, c < 139 → c ≠ 0 → ∀ j, (zwi IL2 0 9 (IL2.1 0 9 ||| (1 <<< (nI b &&& 31)))).1 c j = IL.1 c j := fun c h1 h2 j => by rw [kc c h2 (by omega) (by omega)]
  have zl := zH_le t
  have zg := zH_ge t
  obtain ⟨o, h1, h2, h3⟩ := hC.hist
  refine yC.mk (hC.H.fr (fun i _ _ _ => kc _ (by omega) (by omega) (by omega))) (hC.S.fr (kc 22 (by decide) (by omega) (by omega)) (kc 23 (by decide) (by omega) (by omega))) ?_ ?_ ?_ ?_ ?_ ?_ ⟨o, h1, ?_, fun a ha => ?_⟩ ?_ ?_ ?_ ?_ ?_ ?_ ?_ ?_ ?_ ?_ ?_ (fun j hj => ?_) (fun j hj hx => ?_) ?_
  · rw [g 1 (by decide) (by decide)]; exact hC.len
  · intro j hj; rw [g 2 (by decide) (by decide)]; exact hC.tape j hj
  · rw [g 1 (by decide) (by decide)]; exact hC.fau
  · rw [g 1 (by decide) (by decide)]; exact hC.pla
  · rw [g 26 (by decide) (by decide)]; exact hC.don
  · rw [g 26 (by decide) (by decide)]; exact hC.und
  · rw [g 26 (by decide) (by decide)]; exact h2
  · have hm : (o + a) % 40 < 40 := Nat.mod_lt _ (by decide)
    exact (h3 a ha).fr (kc _ (by omega) (by omega) (by omega)) (kc _ (by omega) (by omega) (by omega))
  · rw [g0 11 (by decide)]; exact hC.lai
  · intro j hj; rw [g 136 (by decide) (by decide)]; exact hC.lie j hj
  · rw [g 128 (by decide) (by decide)]; exact hC.cnt
  · rw [g 128 (by decide) (by decide)]; exact hC.tim
  · rw [g 128 (by decide) (by decide)]; exact hC.ope
  · intro j hj; rw [g 129 (by decide) (by decide)]; exact hC.sof j hj
  · intro j hj; rw [g 130 (by decide) (by decide)]; exact hC.sno j hj
  · intro j hj; rw [g 131 (by decide) (by decide)]; exact hC.sis j hj
  · intro j hj; rw [g 132 (by decide) (by decide)]; exact hC.sto j hj
  · intro j hj; rw [g 133 (by decide) (by decide)]; exact hC.sun j hj
  · intro a v n hv hn; rw [g 134 (by decide) (by decide)]; exact hC.trk a v n hv hn
  · rw [zwi_at, if_pos rfl, k0, b_or, b_one (by omega) (by omega), hC.bxm j hj, Bool.or_comm]
    rfl
  · by_cases e : j = b
    · subst e
      have : (yimg X j).bx j = X.S := by show (if j = j then X.S else X.bx j) = X.S; rw [if_pos rfl]
      rw [this]
      exact s2.fr (zwi_ne (by omega)) (zwi_ne (by omega))
    · have e1 : (yimg X b).bx j = X.bx j := by show (if j = b then X.S else X.bx j) = X.bx j; rw [if_neg e]
      have e2 : X.bxf j = true := by
        have : (decide (j = b) || X.bxf j) = true := hx
        rw [decide_eq_false e, Bool.false_or] at this
        exact this
      rw [e1]
      exact (hC.bx j hj e2).fr (kc _ (by omega) (by omega) (by omega)) (kc _ (by omega) (by omega) (by omega))
  · intro w hw
    show IL2.2 5 w = _
    rw [f2.2]
    exact hC.cod w hw
theorem c_back {x : Int32} (hI : yI X) (hC : yC t X IL) (hQ : ∀ IL', yC t (x_back X x) IL' → (∀ c, 145 ≤ c → IL'.1 c = IL.1 c) → IL'.2 = IL.2 → Q (zFx t, IL') (some (.int (r_back X x)))) : zcall xs (d + 2) 136 (zFx t, IL) [.ref 0, .int x] Q := by
  have k6 := hI.H.k6
  unfold x_back r_back at hQ
  have no : (ybb x && X.bxf x.toNatClampNeg) = false → Q (zFx t, IL) (some (.int (-1))) := fun h => by
    rw [h] at hQ
    exact hQ IL hC (fun _ _ => rfl) rfl
  refine sX7_back t _ IL (zdec (fun z => no (by unfold ybb; rw [decide_eq_true z]; rfl)) (fun z => zdec (fun w => ?_) (fun w => no (by unfold ybb; rw [decide_eq_false w, Bool.and_false, Bool.false_and]))))
  obtain ⟨b, hb, rfl⟩ := y_b3 z w
  refine c_has (by omega) (fun hx => kI (z0 (no ?_))) (fun hx => kI (z1 (zix_n hb (by decide) ?_)))
  · rw [hC.bxm b hb] at hx
    rw [ycl (by omega), hx, Bool.and_false]
  · rw [hC.bxm b hb] at hx
    rw [ybb_y hb, ycl (by omega), hx, Bool.and_self, if_pos rfl, if_pos rfl] at hQ
    rw [ycl (by omega), zR_b t hb]
    show zcall xs (d + 1) 80 (zFx t, IL) [.ref 22, .ref (139 + 2 * b)] _
    refine c_copy (zSt_22 t) (zSt_b t hb) ⟨by omega, by omega, by omega⟩ (hC.bx b hb hx) (fun IL2 f2 s2 => kV (sX3_clear t IL2 (kV (c_bitCount (kI ?_)))))
    have zl := zH_le t
    have kc : ∀ c, c ≠ 26 → c ≠ 22 → c ≠ 23 → (zwi (zwi IL2 26 0 0) 26 1 0).1 c = IL.1 c := fun c h0 h1 h2 => by
      rw [zwi_ne h0, zwi_ne h0, f2.1 c (by simp only [List.mem_cons, List.not_mem_nil, or_false]; omega)]
    have s3 : yCS 22 (X.bx b) (zwi (zwi IL2 26 0 0) 26 1 0) := s2.fr (by rw [zwi_ne (by decide), zwi_ne (by decide)]) (by rw [zwi_ne (by decide), zwi_ne (by decide)])
    rw [s3.read, y_cnt (fun i hi => (hI.bx b hb hx).read i (by omega))]
    obtain ⟨o, h1, h2, h3⟩ := hC.hist
    refine hQ _ (hC.gen (fun c h1 h2 h3 h4 h5 => kc c (by omega) h3 h4) (by show IL2.2 5 = _; rw [f2.2]) s3 (by rw [zwi_at, if_neg (by decide), zwi_at, if_pos rfl]; rfl) (by rw [zwi_at, if_pos rfl]; rfl) ⟨o, h1, ?_, fun a ha => absurd ha (Nat.not_lt_zero a)⟩) (fun c hc => kc c (by omega) (by omega) (by omega)) (by show IL2.2 = _; rw [f2.2])
    rw [zwi_at, if_neg (by decide), zwi_at, if_neg (by decide), f2.1 26 (by simp only [List.mem_cons, List.not_mem_nil, or_false]; omega)]
    exact h2
end ACTS2
