/-! each act keeps what holds of the data -/
theorem y_natc {x : Int32} {n : Nat} (h0 : ¬ x < 0) (h1 : x < nI n) (hn : n ≤ 4000) : x.toNatClampNeg < n ∧ x = nI x.toNatClampNeg := by
  have e0 : ¬ x.toInt < 0 := fun z => h0 (Int32.lt_iff_toInt_lt.mpr (by rw [y0]; exact z))
  have e1 := Int32.lt_iff_toInt_lt.mp h1
  rw [nI_toInt (by omega)] at e1
  obtain ⟨k, hk, e⟩ := yin_ex (x := x) (n := n) ⟨by omega, by omega⟩
  subst e
  rw [ycl (by omega)]
  have : (nI k).toInt = k := nI_toInt (by omega)
  exact ⟨by omega, rfl⟩
theorem yI_read {X : yX} (h : yI X) (x fa : Int32) : yI (x_read X x fa) := by
  have k6 := h.H.k6
  unfold x_read
  by_cases q : yub X.H X.S x = true
  · rw [if_pos q]
    unfold yub at q
    simp only [Bool.and_eq_true, Bool.not_eq_true', decide_eq_false_iff_not, decide_eq_true_eq] at q
    exact yI_act h (ySB_pun h.H (ySB_sit h.H h.S _ _ _ (y_natc q.1 q.2.1 (by omega)).1))
  · rw [if_neg q]; exact h
theorem yI_oil {X : yX} (h : yI X) (x : Int32) : yI (x_oil X x) := by
  have n7 := h.H.n7
  unfold x_oil
  by_cases q : yob X x = true
  · rw [if_pos q]
    unfold yob at q
    simp only [Bool.and_eq_true, Bool.not_eq_true', decide_eq_false_iff_not, decide_eq_true_eq] at q
    have m := (y_natc q.1 q.2.1 (by omega)).1
    have ne : ¬ X.S x.toNatClampNeg = 0 := q.2.2
    have b := h.S.no x.toNatClampNeg (by omega)
    have b1 := b.1
    have b2 := b.2
    have e1 : (1 : Int32).toInt = 1 := by decide
    have nz : (X.S x.toNatClampNeg).toInt ≠ 0 := fun z => ne (Int32.toInt_inj.mp (by rw [z, y0]))
    refine yI_act h (ySB_S' h.S (by omega) ?_ ?_)
    · unfold yin
      rw [i_sub (by omega) (by omega) (by omega) (by omega), e1]
      omega
    · cases e : bt (X.S 7) x.toNatClampNeg
      · exact absurd (h.S.inn _ (by omega) e) ne
      · rfl
  · rw [if_neg q]; exact h
theorem yI_change {X : yX} (h : yI X) : yI (x_change X) := by
  unfold x_change
  split
  · exact h
  · exact yI_act h (ySB_chg h.H h.S)
theorem yI_undo {X : yX} (h : yI X) : yI (yundo X) := by
  have dn := h.dn
  unfold yundo
  by_cases q : X.don = 0
  · rw [if_pos q]; exact h
  · rw [if_neg q]
    refine yI_W h (h.hi _ (by omega)) (by omega) (fun a ha => ?_)
    split
    · exact h.S
    · exact h.hi a (by omega)
theorem yI_redo {X : yX} (h : yI X) : yI (yredo X) := by
  have dn := h.dn
  unfold yredo
  by_cases q : X.und = 0
  · rw [if_pos q]; exact h
  · rw [if_neg q]
    refine yI_W h (h.hi _ (by omega)) (by omega) (fun a ha => ?_)
    split
    · exact h.S
    · exact h.hi a (by omega)
theorem yI_image {X : yX} (h : yI X) (x : Int32) : yI (x_image X x) := by
  unfold x_image
  split
  · refine yI.mk h.H h.S h.len h.tp h.dn h.hi h.lai h.cnt h.tim h.sof h.sno h.sun (fun b hb z => ?_)
    show ySB X.H (if b = x.toNatClampNeg then X.S else X.bx b)
    have z' : (decide (b = x.toNatClampNeg) || X.bxf b) = true := z
    by_cases e : b = x.toNatClampNeg
    · rw [if_pos e]; exact h.S
    · rw [if_neg e]
      rw [decide_eq_false e, Bool.false_or] at z'
      exact h.bx b hb z'
  · exact h
theorem yI_back {X : yX} (h : yI X) (x : Int32) : yI (x_back X x) := by
  unfold x_back
  by_cases q : (ybb x && X.bxf x.toNatClampNeg) = true
  · rw [if_pos q]
    rw [Bool.and_eq_true] at q
    have q1 := q.1
    unfold ybb at q1
    simp only [Bool.and_eq_true, Bool.not_eq_true', decide_eq_false_iff_not, decide_eq_true_eq] at q1
    exact yI_W h (h.bx _ (y_natc (n := 3) q1.1 q1.2 (by decide)).1 q.2) (by decide) (fun a ha => absurd ha (Nat.not_lt_zero a))
  · rw [if_neg q]; exact h
theorem yI_later {X : yX} (h : yI X) (v : Int32) : yI (x_later X v) := by
  unfold x_later
  by_cases q : ylt X v = true
  · rw [if_pos q]
    unfold ylt at q
    simp only [Bool.and_eq_true, Bool.not_eq_true', decide_eq_false_iff_not] at q
    have t1 := h.tim.1
    have t2 := h.tim.2
    have v0 : ¬ v.toInt < 0 := fun z => q.1 (Int32.lt_iff_toInt_lt.mpr (by rw [y0]; exact z))
    have e1 : (1000 : Int32).toInt = 1000 := by decide
    have v1 : ¬ 1000 < v.toInt := fun z => q.2.1 (Int32.lt_iff_toInt_lt.mpr (by rw [e1]; exact z))
    have ea : (X.tim + v).toInt = X.tim.toInt + v.toInt := i_add (by omega) (by omega) (by omega) (by omega)
    have e2 : (100000 : Int32).toInt = 100000 := by decide
    have v2 : ¬ 100000 < (X.tim + v).toInt := fun z => q.2.2 (Int32.lt_iff_toInt_lt.mpr (by rw [e2]; exact z))
    refine yI.mk h.H h.S h.len h.tp h.dn h.hi h.lai h.cnt ?_ h.sof h.sno h.sun h.bx
    show yin (X.tim + v) 0 100000
    exact ⟨by omega, by omega⟩
  · rw [if_neg q]; exact h
theorem yI_untell {X : yX} (h : yI X) (x : Int32) : yI (x_untell X x) := by
  unfold x_untell
  split
  · refine yI.mk h.H h.S h.len h.tp h.dn h.hi h.lai h.cnt h.tim h.sof h.sno (fun i hi => ?_) h.bx
    show (if i = x.toNatClampNeg then X.tim else X.sun i) = -1 ∨ yin (if i = x.toNatClampNeg then X.tim else X.sun i) 0 100000
    split
    · exact Or.inr h.tim
    · exact h.sun i hi
  · exact h
theorem yI_heard {X : yX} (h : yI X) (n no : Int32) (b : Bool) : yI (x_heard X n no b) := by
  unfold x_heard
  by_cases q : yhb X n no = true
  · rw [if_pos q]
    unfold yhb at q
    simp only [Bool.and_eq_true, Bool.not_eq_true', decide_eq_false_iff_not, decide_eq_true_eq] at q
    obtain ⟨⟨n0, n6⟩, ⟨m0, m9⟩, _, cc⟩ := q
    have e0 : ¬ n.toInt < 0 := fun z => n0 (Int32.lt_iff_toInt_lt.mpr (by rw [y0]; exact z))
    have e6 : (6 : Int32).toInt = 6 := by decide
    have e1 : ¬ 6 < n.toInt := fun z => n6 (Int32.lt_iff_toInt_lt.mpr (by rw [e6]; exact z))
    have f0 : ¬ no.toInt < 0 := fun z => m0 (Int32.lt_iff_toInt_lt.mpr (by rw [y0]; exact z))
    have e9 : (99 : Int32).toInt = 99 := by decide
    have f1 : ¬ 99 < no.toInt := fun z => m9 (Int32.lt_iff_toInt_lt.mpr (by rw [e9]; exact z))
    obtain ⟨k, hk, ek⟩ := yin_ex (x := n) (n := 6) ⟨by omega, by omega⟩
    refine yI.mk h.H h.S h.len h.tp h.dn h.hi h.lai (show X.cnt + 1 ≤ 30 by omega) h.tim (fun i hi => ?_) (fun i hi => ?_) (fun i hi => ?_) h.bx
    · have hi' : i < X.cnt + 1 := hi
      show (if i = X.cnt then n.toNatClampNeg else X.sof i) ≤ 6
      split
      · rw [ek, ycl (by omega)]; exact hk
      · exact h.sof i (by omega)
    · have hi' : i < X.cnt + 1 := hi
      show yin (if i = X.cnt then no else X.sno i) 0 99
      split
      · exact ⟨by omega, by omega⟩
      · exact h.sno i (by omega)
    · have hi' : i < X.cnt + 1 := hi
      show (if i = X.cnt then (-1 : Int32) else X.sun i) = -1 ∨ yin (if i = X.cnt then (-1 : Int32) else X.sun i) 0 100000
      split
      · exact Or.inl rfl
      · exact h.sun i (by omega)
  · rw [if_neg q]; exact h
theorem yfd_in {T : Nat → Int32} {n : Nat} {x : Int32} (h : ∀ j, j < n → yin (T j) 0 255) : ∀ j, j < n + 4 → yin (yfd T n x j) 0 255 := by
  intro j hj
  unfold yfd
  split
  · exact yby_in _ _
  · split
    · exact yby_in _ _
    · split
      · exact yby_in _ _
      · split
        · exact yby_in _ _
        · exact h j (by omega)
theorem yI_feed {X : yX} (h : yI X) (a b c e f : Int32) : yI (x_feed X a b c e f) := by
  unfold x_feed
  by_cases q : X.len ≤ 1580
  · rw [if_pos q]
    refine yI.mk h.H h.S (show X.len + 20 ≤ 1600 by omega) (fun j hj => ?_) h.dn h.hi h.lai h.cnt h.tim h.sof h.sno h.sun h.bx
    exact yfd_in (n := X.len + 16) (yfd_in (n := X.len + 12) (yfd_in (n := X.len + 8) (yfd_in (n := X.len + 4) (yfd_in h.tp)))) j hj
  · rw [if_neg q]; exact h
theorem yI_end {X : yX} (h : yI X) (n : Int32) : yI (x_end X n) := by
  have l := h.len
  unfold x_end
  by_cases q : yeb X n = true
  · rw [if_pos q]
    unfold yeb at q
    simp only [Bool.and_eq_true, Bool.not_eq_true', decide_eq_false_iff_not] at q
    have e0 : ¬ n.toInt < 0 := fun z => q.1 (Int32.lt_iff_toInt_lt.mpr (by rw [y0]; exact z))
    have e1 : ¬ (X.len : Int) < n.toInt := fun z => q.2 (Int32.lt_iff_toInt_lt.mpr (by rw [nI_toInt (by omega)]; exact z))
    obtain ⟨k, hk, ek⟩ := yin_ex (x := n) (n := X.len) ⟨by omega, by omega⟩
    rw [ek, ycl (by omega)]
    exact yI.mk h.H h.S (show k ≤ 1600 by omega) (fun j hj => h.tp j (by have hj' : j < k := hj; omega)) h.dn h.hi h.lai h.cnt h.tim h.sof h.sno h.sun h.bx
  · rw [if_neg q]; exact h
theorem yI_Lx {X : yX} (h : yI X) {n : Nat} {f : Nat → Int32} (hn : n ≤ 6) : yI (yLx X n f) := yI.mk h.H h.S h.len h.tp h.dn h.hi hn h.cnt h.tim h.sof h.sno h.sun h.bx
theorem yI_agenda {X : yX} (h : yI X) (fa : Int32) : yI (x_agenda X fa) := yI_Lx h (by have := h.H.k6; unfold ylS; omega)
theorem yI_house {X : yX} (h : yI X) : yI (x_house X) := by
  have r := yRs_I h
  unfold x_house
  by_cases q : (yRs X).1 = 0
  · rw [if_pos q]
    have hO := (r.2.2 q).2.2.2.2.2.1
    generalize (yRs X).2.H = H at hO
    refine yI.mk hO ?_ (Nat.zero_le _) (fun j hj => absurd hj (Nat.not_lt_zero j)) (Nat.zero_le _) (fun a ha => absurd ha (Nat.not_lt_zero a)) (Nat.zero_le _) (Nat.zero_le _) h.tim (fun a ha => absurd ha (Nat.not_lt_zero a)) (fun a ha => absurd ha (Nat.not_lt_zero a)) (fun a ha => absurd ha (Nat.not_lt_zero a)) (fun b hb z => absurd (show false = true from z) (by decide))
    show ySB H (yS0 H)
    refine ySB.mk (fun j hj => ?_) (fun j hj _ => ?_) hO.out (fun i _ => b_0 i) (fun i _ => b_0 i) hO.draw
    · unfold yS0
      rw [if_neg (by omega), if_neg (by omega)]
      exact ⟨by decide, by decide⟩
    · unfold yS0
      rw [if_neg (by omega), if_neg (by omega)]
  · rw [if_neg q]
    exact yI.mk h.H h.S (Nat.zero_le _) (fun j hj => absurd hj (Nat.not_lt_zero j)) h.dn h.hi h.lai h.cnt h.tim h.sof h.sno h.sun h.bx
/-- trust: what it lays -/
def x_trust (X : yX) (x y : Int32) : yX := if ytw X.H X.S x y 0 = -1 then yLx X 0 (fun _ => 0) else yLx X (yln (ytuf (X.S x.toNatClampNeg) (X.S y.toNatClampNeg))) (ylie (ytuf (X.S x.toNatClampNeg) (X.S y.toNatClampNeg)))
theorem yI_trust {X : yX} (h : yI X) (x y : Int32) : yI (x_trust X x y) := by
  unfold x_trust
  split
  · exact yI_Lx h (by decide)
  · refine yI_Lx h ?_
    unfold yln
    split <;> decide
theorem ylT_e {X : yX} {x y : Int32} {n : Nat} {f : Nat → Int32} {P : yX → Prop} (h : ylT X.H X.S x y n f) (hp : ∀ lai lie, n = lai → (∀ j, j < lai → f j = lie j) → P (yLx X lai lie)) : P (x_trust X x y) := by
  unfold x_trust
  rcases h with ⟨a, b⟩ | ⟨a, b, c⟩
  · rw [if_pos (a 0)]
    exact hp 0 _ b (fun j hj => absurd hj (Nat.not_lt_zero j))
  · rw [if_neg (by rw [a 0]; decide)]
    exact hp _ _ b (fun j hj => c j (by rw [b]; exact hj))
