/-! winds, creak, softest, loudest, tensest, cross, until -/
def ywd (H : yH) (S : Nat → Int32) (m : Nat) (q no fa : Int32) : Int32 := zcwd no (zwv H.ss q (H.mi m) (H.vo m) no fa (yre S))
def ycr1 (H : yH) (S : Nat → Int32) (c : Nat) (fa : Int32) (m : Nat) (a : Int32) : Int32 := if bt (S 7) m then a + ywd H S m (H.sh c) (S m) fa else a
def ycr (H : yH) (S : Nat → Int32) (c : Nat) (fa : Int32) : Int32 := yfo (ycr1 H S c fa) H.n 0 0
def ysof (H : yH) (S : Nat → Int32) (c : Nat) (b : Int32) : Int32 := if bt (S 8) c then b else if b = -1 then nI c else if ycr H S c 1 < ycr H S b.toNatClampNeg 1 then nI c else b
def ylou (H : yH) (S : Nat → Int32) (c : Nat) (b : Int32) : Int32 := if bt (S 8) c then b else if b = -1 then nI c else if ycr H S b.toNatClampNeg 0 < ycr H S c 0 then nI c else b
def yten (S : Nat → Int32) (m : Nat) (b : Int32) : Int32 := if bt (S 7) m then (if b = -1 then nI m else if S b.toNatClampNeg < S m then nI m else b) else b
def ycro (H : yH) (S : Nat → Int32) (m : Nat) : Bool := bt (S 7) m && !decide (2 * S m < H.cock)
def yunt (H : yH) (S : Nat → Int32) (m : Nat) (q fa : Int32) : Nat → Nat → Int32 → Int32
  | 0, _, _ => -1
  | k + 1, i, no => if ynw no (zwv H.ss q (H.mi m) (H.vo m) no fa (yre S + nI i)) < H.cock then yunt H S m q fa k (i + 1) (ynw no (zwv H.ss q (H.mi m) (H.vo m) no fa (yre S + nI i))) else nI (i + 1)
/-- an answer for one who is OUT and a clause -/
def yoc (H : yH) (S : Nat → Int32) (x y e v : Int32) : Int32 := if x < 0 then e else if x < nI H.n then (if bt (S 7) x.toNatClampNeg then (if y < 0 then e else if y < nI H.k then v else e) else e) else e
/-- none yet, or one of the first n -/
def yb1 (n : Nat) (b : Int32) : Prop := b = -1 ∨ ∃ a, a < n ∧ b = nI a
theorem yb1_neg {n : Nat} {b : Int32} (hn : n ≤ 4000) (h : yb1 n b) : b < 0 ↔ b = -1 := by
  constructor
  · intro z
    rcases h with h | ⟨a, ha, e⟩
    · exact h
    · rw [e] at z
      exact absurd z (nI_pos (by omega))
  · intro e
    rw [e]
    decide
theorem y_back (a b : Int32) : a + b - a = b := by rw [Int32.add_comm, Int32.add_sub_cancel]
section CREAK
variable {xs : List Int32} {d : Nat} {Q : zQ} {t : Bool} {IL IL0 : zIL} {H : yH} {fa : Int32} {S : Nat → Int32}
theorem ytf_5 {A B : zIL} (h : zfr [zH t + 5, zH t + 7] A B) : zfr (ytf t) A B := zfr_le h (fun c hc => by
  unfold ytf
  simp only [List.mem_cons, List.not_mem_nil, or_false] at hc ⊢
  omega)
theorem c_windNow {m : Nat} {q no : Int32} (hH : yOK H) (hC : yCH t H IL) (hS : yCS 22 S IL) (hB : ySB H S) (hm : m < H.n) (hfa : fa = 0 ∨ fa = 1) (hQ : ∀ IL', zfr (ytf t) IL IL' → Q (zFx t, IL') (some (.int (ywd H S m q no fa)))) : zcall xs (d + 4) 144 (zFx t, IL) [.ref 0, .int (nI m), .int q, .int no, .int fa] Q := by
  have n7 := hH.n7
  have k6 := hH.k6
  refine sX7_windNow t _ _ _ _ IL (c_bitCount (kI (zix_n (by omega) (by omega) ?_)))
  rw [hS.read, y_cnt (fun i hi => hB.read i (by omega)), ycl (by omega), hC.mi m hm]
  refine zdec (fun z => ?_) (fun z => ?_)
  · exact c_windOf (vo := H.vo m) hH.ss (by omega) hC.len hC.ss (hC.vo m hm) (fun IL2 f2 => kI (by
      have := hQ IL2 (ytf_5 f2)
      rw [z] at this
      exact this))
  · exact c_windOf (vo := H.vo m) hH.ss (by omega) hC.len hC.ss (hC.vo m hm) (fun IL2 f2 => kI (by
      have := hQ IL2 (ytf_5 f2)
      rw [hfa.resolve_left z] at this
      exact this))
theorem l_creak {c : Nat} (hH : yOK H) (hC : yCH t H IL0) (hS : yCS 22 S IL0) (hB : ySB H S) (hc : c < H.k) (hfa : fa = 0 ∨ fa = 1) : ∀ (k i : Nat) (IL : zIL) (a : Int32), i + k = H.n → zfr (ytf t) IL0 IL → (∀ IL', zfr (ytf t) IL0 IL' → Q (zFx t, IL') (some (.int (yfo (ycr1 H S c fa) k i a)))) → gX7_creakAt xs (d + 4) Q 5 [.ref 0, .int (nI c), .int fa, .int a, .int (nI i)] [] (zFx t, IL)
  | 0, i, IL, a, hi, fr, hQ => by
    have n7 := hH.n7
    exact sX7_creakAt_5 t _ _ _ _ IL (zd_f (hC.tf fr).mem (by omega) (by omega) (hQ IL fr))
  | k + 1, i, IL, a, hi, fr, hQ => by
    have n7 := hH.n7
    have k6 := hH.k6
    have hCI := hC.tf fr
    have hSI := hS.tf fr (Or.inl rfl)
    unfold yfo ycr1 at hQ
    refine sX7_creakAt_5 t _ _ _ _ IL (zd_t hCI.mem (by omega) (by omega) ?_)
    rw [hSI.out]
    refine c_has (by omega) (fun hb => kI (z0 ?_)) (fun hb => kI (z1 (zix_n (by omega) (by omega) (zix_n (by omega) (by omega) ?_))))
    · rw [hb] at hQ
      rw [nI_1]
      exact l_creak hH hC hS hB hc hfa k (i + 1) IL a (by omega) fr hQ
    · rw [hb] at hQ
      rw [ycl (by omega), ycl (by omega), hCI.sh c hc, show IL.1 23 i = S i from hSI.no i (by omega)]
      refine c_windNow hH hCI hSI hB (by omega) hfa (fun IL2 f2 => kI ?_)
      rw [nI_1]
      exact l_creak hH hC hS hB hc hfa k (i + 1) IL2 _ (by omega) (zfr_tr fr f2) hQ
theorem c_creakAt {c : Nat} (hH : yOK H) (hC : yCH t H IL) (hS : yCS 22 S IL) (hB : ySB H S) (hc : c < H.k) (hfa : fa = 0 ∨ fa = 1) (hQ : ∀ IL', zfr (ytf t) IL IL' → Q (zFx t, IL') (some (.int (ycr H S c fa)))) : zcall xs (d + 5) 145 (zFx t, IL) [.ref 0, .int (nI c), .int fa] Q :=
  sX7_creakAt t _ _ IL (l_creak hH hC hS hB hc hfa H.n 0 IL 0 (by omega) zfr_rf hQ)
theorem c_mwindNow {m c : Nat} (hH : yOK H) (hM : yMH H IL) (hS : yMS 161 S IL) (h27 : IL.1 145 27 = -1) (hB : ySB H S) (hm : m < H.n) (hc : c < H.k) (hQ : ∀ IL', yfm ypw IL IL' → Q (zFx t, IL') (some (.int (ywd H S m (H.sh c) (S m) fa)))) : zcall xs (d + 4) 213 (zFx t, IL) [.ref 145, .int (nI m), .int (nI c), .int fa] Q := by
  have n7 := hH.n7
  have k6 := hH.k6
  refine sX8_windNow t _ _ _ IL (zix_n (by omega) (by omega) (zix_n (by omega) (by omega) (zix_n (by omega) (by omega) (c_members (kI ?_)))))
  rw [hS 8 (by decide), ycl (by omega), ycl (by omega), hM.sh c hc, hS m (by omega)]
  refine c_mwindOf (ss := H.ss) (mi := H.mi m) (vo := H.vo m) hH.ss hH.bk (by omega) hM.form hM.len hM.ss (hM.vo m hm) (by rw [h27, if_pos (by decide), hM.mi m hm]) (fun IL2 f2 => kI (c_greater (kI (zix_n (by omega) (by omega) ?_))))
  have g : yfm ypw IL IL2 := yfm_zfr f2 (fun c hc j => by
    simp only [List.mem_cons, List.not_mem_nil, or_false] at hc
    rcases hc with rfl | rfl <;> rfl)
  have := hQ IL2 g
  rw [f2.1 161 (by decide), hS m (by omega), y_wind (hB.no m (by omega))]
  unfold ynw
  rw [y_back]
  exact this
theorem l_mcreak {c : Nat} (hH : yOK H) (hM : yMH H IL0) (hS : yMS 161 S IL0) (h27 : IL0.1 145 27 = -1) (hB : ySB H S) (hc : c < H.k) : ∀ (k i : Nat) (IL : zIL) (a : Int32), i + k = H.n → yfm ypw IL0 IL → (∀ IL', yfm ypw IL0 IL' → Q (zFx t, IL') (some (.int (yfo (ycr1 H S c fa) k i a)))) → gX8_creakOf xs (d + 4) Q 5 [.ref 145, .int (nI c), .int fa, .int a, .int (nI i)] [] (zFx t, IL)
  | 0, i, IL, a, hi, fr, hQ => by
    have n7 := hH.n7
    exact sX8_creakOf_5 t _ _ _ _ IL (zd_f (hM.pw fr).mem (by omega) (by omega) (hQ IL fr))
  | k + 1, i, IL, a, hi, fr, hQ => by
    have n7 := hH.n7
    have k6 := hH.k6
    have hMI := hM.pw fr
    have hSI := hS.pw fr
    unfold yfo ycr1 at hQ
    refine sX8_creakOf_5 t _ _ _ _ IL (zd_t hMI.mem (by omega) (by omega) (c_misOut (by omega) hSI (fun hb => kI (z0 ?_)) (fun hb => kI (z1 ?_))))
    · rw [hb] at hQ
      rw [nI_1, Int32.add_zero]
      exact l_mcreak hH hM hS h27 hB hc k (i + 1) IL a (by omega) fr hQ
    · rw [hb] at hQ
      refine c_mwindNow hH hMI hSI (y_h27 h27 fr) hB (by omega) hc (fun IL2 f2 => kI ?_)
      rw [nI_1]
      exact l_mcreak hH hM hS h27 hB hc k (i + 1) IL2 _ (by omega) (yfm_tr fr f2) hQ
theorem c_creakOf {c : Nat} (hH : yOK H) (hM : yMH H IL) (hS : yMS 161 S IL) (h27 : IL.1 145 27 = -1) (hB : ySB H S) (hc : c < H.k) (hQ : ∀ IL', yfm ypw IL IL' → Q (zFx t, IL') (some (.int (ycr H S c fa)))) : zcall xs (d + 5) 250 (zFx t, IL) [.ref 145, .int (nI c), .int fa] Q :=
  sX8_creakOf t _ _ IL (l_mcreak hH hM hS h27 hB hc H.n 0 IL 0 (by omega) yfm_rf hQ)
def r_creak (H : yH) (S : Nat → Int32) (x fa : Int32) : Int32 := if x < 0 then -1000 else if x < nI H.k then ycr H S x.toNatClampNeg fa else -1000
theorem c_creak {x : Int32} (hH : yOK H) (hC : yCH t H IL) (hS : yCS 22 S IL) (hB : ySB H S) (hfa : fa = 0 ∨ fa = 1) (hQ : ∀ IL', zfr (ytf t) IL IL' → Q (zFx t, IL') (some (.int (r_creak H S x fa)))) : zcall xs (d + 6) 112 (zFx t, IL) [.ref 0, .int x, .int fa] Q := by
  have k6 := hH.k6
  unfold r_creak at hQ
  refine sX7_creak t _ _ IL (c_isClause hH hC (fun h => kI (z0 ?_)) (fun c hc e h => kI (z1 ?_)))
  · have := hQ IL zfr_rf
    rw [yisM_n h] at this
    exact this
  · rw [yisM_y h] at hQ
    subst e
    rw [ycl (by omega)] at hQ
    exact c_creakAt hH hC hS hB hc hfa (fun IL' f => kI (hQ IL' f))
theorem m_creak {x : Int32} (hH : yOK H) (hM : yMH H IL) (hS : yMS 161 S IL) (h27 : IL.1 145 27 = -1) (hB : ySB H S) (hfa : fa = 0 ∨ fa = 1) (hQ : ∀ IL', yfm ypw IL IL' → Q (zFx t, IL') (some (.int (r_creak H S x fa)))) : zcall xs (d + 6) 251 (zFx t, IL) [.ref 145, .int x, .int fa] Q := by
  have k6 := hH.k6
  unfold r_creak at hQ
  refine sX8_creak t _ _ IL (c_misClause hH hM (fun h => kI (z0 ?_)) (fun c hc e h => kI (z1 (c_tr01 hfa (kI ?_)))))
  · have := hQ IL yfm_rf
    rw [yisM_n h] at this
    exact this
  · rw [yisM_y h] at hQ
    subst e
    rw [ycl (by omega)] at hQ
    exact c_creakOf hH hM hS h27 hB hc (fun IL' f => kI (hQ IL' f))
theorem yoc_1 {x y e : Int32} (h : ∀ v, (if x < 0 then -1 else if x < nI H.n then (if bt (S 7) x.toNatClampNeg then v else -1) else -1) = (-1 : Int32)) (v : Int32) : yoc H S x y e v = e := by
  unfold yoc
  by_cases a : x < 0
  · rw [if_pos a]
  · rw [if_neg a]
    by_cases b : x < nI H.n
    · rw [if_pos b]
      have := h 0
      rw [if_neg a, if_pos b] at this
      split
      · rw [if_pos ‹_›] at this
        exact absurd this (by decide)
      · rfl
    · rw [if_neg b]
theorem yoc_2 {m : Nat} {y e v : Int32} (hn : H.n ≤ 7) (hm : m < H.n) (ho : bt (S 7) m = true) : yoc H S (nI m) y e v = if y < 0 then e else if y < nI H.k then v else e := by
  unfold yoc
  rw [if_neg (nI_pos (by omega)), if_pos (nI_lt hm (by omega)), ycl (by omega), if_pos ho]
theorem yoc_3 {m : Nat} {y e v : Int32} (hn : H.n ≤ 7) (hm : m < H.n) (ho : bt (S 7) m = false) : yoc H S (nI m) y e v = e := by
  unfold yoc
  rw [if_neg (nI_pos (by omega)), if_pos (nI_lt hm (by omega)), ycl (by omega), ho]
  rfl
def r_winds (H : yH) (S : Nat → Int32) (x y fa : Int32) : Int32 := yoc H S x y (-100) (ywd H S x.toNatClampNeg (H.sh y.toNatClampNeg) (S x.toNatClampNeg) fa)
theorem c_winds {x y : Int32} (hH : yOK H) (hC : yCH t H IL) (hS : yCS 22 S IL) (hB : ySB H S) (hfa : fa = 0 ∨ fa = 1) (hQ : ∀ IL', zfr (ytf t) IL IL' → Q (zFx t, IL') (some (.int (r_winds H S x y fa)))) : zcall xs (d + 5) 93 (zFx t, IL) [.ref 0, .int x, .int y, .int fa] Q := by
  have k6 := hH.k6
  have n7 := hH.n7
  unfold r_winds at hQ
  have hq := hQ IL zfr_rf
  refine sX7_winds t _ _ _ IL (c_isOut hH hC hS (fun h => kI (z0 ?_)) (fun m hm e ho => kI (z1 (c_isClause hH hC (fun h => kI (z0 ?_)) (fun c hc ec h => kI (z1 (zix_i ?_ (zix_i ?_ ?_))))))))
  · rw [yoc_1 h] at hq; exact hq
  · subst e
    rw [yoc_2 n7 hm ho, yisM_n h] at hq; exact hq
  · subst ec; exact vp_in_nI (by omega) (by omega)
  · subst e; exact vp_in_nI (by omega) (by omega)
  · subst e
    subst ec
    rw [yoc_2 n7 hm ho, yisM_y h, ycl (by omega), ycl (by omega)] at hQ
    rw [ycl (by omega), ycl (by omega), hC.sh c hc, show IL.1 23 m = S m from hS.no m (by omega)]
    exact c_windNow hH hC hS hB hm hfa (fun IL' f => kI (hQ IL' f))
theorem m_winds {x y : Int32} (hH : yOK H) (hM : yMH H IL) (hS : yMS 161 S IL) (h27 : IL.1 145 27 = -1) (hB : ySB H S) (hfa : fa = 0 ∨ fa = 1) (hQ : ∀ IL', yfm ypw IL IL' → Q (zFx t, IL') (some (.int (r_winds H S x y fa)))) : zcall xs (d + 5) 214 (zFx t, IL) [.ref 145, .int x, .int y, .int fa] Q := by
  have k6 := hH.k6
  have n7 := hH.n7
  unfold r_winds at hQ
  have hq := hQ IL yfm_rf
  refine sX8_winds t _ _ _ IL (c_misMember hH hM (fun h => kI (z0 ?_)) (fun m hm e hx => kI (z1 ?_)))
  · rw [yoc_1 (fun v => yisM_n h)] at hq; exact hq
  subst e
  refine c_misOut (by omega) hS (fun ho => kI (z0 ?_)) (fun ho => kI (z1 (c_misClause hH hM (fun h => kI (z0 ?_)) (fun c hc ec h => kI (z1 (c_tr01 hfa (kI ?_)))))))
  · rw [yoc_3 n7 hm ho] at hq; exact hq
  · rw [yoc_2 n7 hm ho, yisM_n h] at hq; exact hq
  · subst ec
    rw [yoc_2 n7 hm ho, yisM_y h, ycl (by omega), ycl (by omega)] at hQ
    exact c_mwindNow hH hM hS h27 hB hm hc (fun IL' f => kI (hQ IL' f))
theorem yb1_sof {c : Nat} {b : Int32} (hc : c < H.k) (h : yb1 H.k b) : yb1 H.k (ysof H S c b) := by
  unfold ysof
  split
  · exact h
  · split
    · exact Or.inr ⟨c, hc, rfl⟩
    · split
      · exact Or.inr ⟨c, hc, rfl⟩
      · exact h
theorem yb1_lou {c : Nat} {b : Int32} (hc : c < H.k) (h : yb1 H.k b) : yb1 H.k (ylou H S c b) := by
  unfold ylou
  split
  · exact h
  · split
    · exact Or.inr ⟨c, hc, rfl⟩
    · split
      · exact Or.inr ⟨c, hc, rfl⟩
      · exact h
theorem l_softest (hH : yOK H) (hC : yCH t H IL0) (hS : yCS 22 S IL0) (hB : ySB H S) : ∀ (k i : Nat) (IL : zIL) (b y : Int32) (w4 : Value), i + k = H.k → (¬ b = -1 → y = ycr H S b.toNatClampNeg 1) → zfr (ytf t) IL0 IL → (∀ IL', zfr (ytf t) IL0 IL' → Q (zFx t, IL') (some (.int (yfo (ysof H S) k i b)))) → gX7_softest xs (d + 5) Q 6 [.ref 0, .int b, .int y, .int (nI i), w4] [] (zFx t, IL)
  | 0, i, IL, b, y, w4, hi, hy, fr, hQ => by
    have k6 := hH.k6
    exact sX7_softest_6 t _ _ _ _ IL (zd_f (hC.tf fr).cla (by omega) (by omega) (hQ IL fr))
  | k + 1, i, IL, b, y, w4, hi, hy, fr, hQ => by
    have k6 := hH.k6
    have hCI := hC.tf fr
    have hSI := hS.tf fr (Or.inl rfl)
    unfold yfo at hQ
    have go : ∀ (b' y' : Int32) (IL' : zIL) (w4 : Value), zfr (ytf t) IL0 IL' → b' = ysof H S i b → (¬ b' = -1 → y' = ycr H S b'.toNatClampNeg 1) → gX7_softest xs (d + 5) Q 6 [.ref 0, .int b', .int y', .int (nI i + 1), w4] [] (zFx t, IL') := fun b' y' IL' w4 f e hy' => by
      rw [nI_1]
      exact l_softest hH hC hS hB k (i + 1) IL' b' y' w4 (by omega) hy' f (by rw [e]; exact hQ)
    have hi' : ¬ nI i = -1 → ycr H S i 1 = ycr H S (nI i).toNatClampNeg 1 := fun _ => by rw [ycl (by omega)]
    refine sX7_softest_6 t _ _ _ _ IL (zd_t hCI.cla (by omega) (by omega) ?_)
    rw [hSI.read]
    refine c_has (by omega) (fun hb => kI (z0 ?_)) (fun hb => kI (z1 (go b y IL _ fr (by unfold ysof; rw [hb]; rfl) hy)))
    refine c_creakAt hH hCI hSI hB (by omega) (Or.inr rfl) (fun IL2 f2 => kI (zdec (fun z => go (nI i) _ IL2 _ (zfr_tr fr f2) ?_ hi') (fun z => zdec (fun z2 => go (nI i) _ IL2 _ (zfr_tr fr f2) ?_ hi') (fun z2 => go b y IL2 _ (zfr_tr fr f2) ?_ hy))))
    · unfold ysof; rw [hb, if_neg (by decide), if_pos z]
    · rw [hy z] at z2
      unfold ysof; rw [hb, if_neg (by decide), if_neg z, if_pos z2]
    · rw [hy z] at z2
      unfold ysof; rw [hb, if_neg (by decide), if_neg z, if_neg z2]
theorem c_softest (hH : yOK H) (hC : yCH t H IL) (hS : yCS 22 S IL) (hB : ySB H S) (hQ : ∀ IL', zfr (ytf t) IL IL' → Q (zFx t, IL') (some (.int (yfo (ysof H S) H.k 0 (-1))))) : zcall xs (d + 6) 118 (zFx t, IL) [.ref 0] Q :=
  sX7_softest t IL (l_softest hH hC hS hB H.k 0 IL (-1) 0 _ (by omega) (fun z => absurd rfl z) zfr_rf hQ)
theorem l_loudest (hH : yOK H) (hC : yCH t H IL0) (hS : yCS 22 S IL0) (hB : ySB H S) : ∀ (k i : Nat) (IL : zIL) (b y : Int32) (w4 : Value), i + k = H.k → (¬ b = -1 → y = ycr H S b.toNatClampNeg 0) → zfr (ytf t) IL0 IL → (∀ IL', zfr (ytf t) IL0 IL' → Q (zFx t, IL') (some (.int (yfo (ylou H S) k i b)))) → gX7_loudest xs (d + 5) Q 6 [.ref 0, .int b, .int y, .int (nI i), w4] [] (zFx t, IL)
  | 0, i, IL, b, y, w4, hi, hy, fr, hQ => by
    have k6 := hH.k6
    exact sX7_loudest_6 t _ _ _ _ IL (zd_f (hC.tf fr).cla (by omega) (by omega) (hQ IL fr))
  | k + 1, i, IL, b, y, w4, hi, hy, fr, hQ => by
    have k6 := hH.k6
    have hCI := hC.tf fr
    have hSI := hS.tf fr (Or.inl rfl)
    unfold yfo at hQ
    have go : ∀ (b' y' : Int32) (IL' : zIL) (w4 : Value), zfr (ytf t) IL0 IL' → b' = ylou H S i b → (¬ b' = -1 → y' = ycr H S b'.toNatClampNeg 0) → gX7_loudest xs (d + 5) Q 6 [.ref 0, .int b', .int y', .int (nI i + 1), w4] [] (zFx t, IL') := fun b' y' IL' w4 f e hy' => by
      rw [nI_1]
      exact l_loudest hH hC hS hB k (i + 1) IL' b' y' w4 (by omega) hy' f (by rw [e]; exact hQ)
    have hi' : ¬ nI i = -1 → ycr H S i 0 = ycr H S (nI i).toNatClampNeg 0 := fun _ => by rw [ycl (by omega)]
    refine sX7_loudest_6 t _ _ _ _ IL (zd_t hCI.cla (by omega) (by omega) ?_)
    rw [hSI.read]
    refine c_has (by omega) (fun hb => kI (z0 ?_)) (fun hb => kI (z1 (go b y IL _ fr (by unfold ylou; rw [hb]; rfl) hy)))
    refine c_creakAt hH hCI hSI hB (by omega) (Or.inl rfl) (fun IL2 f2 => kI (zdec (fun z => go (nI i) _ IL2 _ (zfr_tr fr f2) ?_ hi') (fun z => zdec (fun z2 => go (nI i) _ IL2 _ (zfr_tr fr f2) ?_ hi') (fun z2 => go b y IL2 _ (zfr_tr fr f2) ?_ hy))))
    · unfold ylou; rw [hb, if_neg (by decide), if_pos z]
    · rw [hy z] at z2
      unfold ylou; rw [hb, if_neg (by decide), if_neg z, if_pos z2]
    · rw [hy z] at z2
      unfold ylou; rw [hb, if_neg (by decide), if_neg z, if_neg z2]
theorem c_loudest (hH : yOK H) (hC : yCH t H IL) (hS : yCS 22 S IL) (hB : ySB H S) (hQ : ∀ IL', zfr (ytf t) IL IL' → Q (zFx t, IL') (some (.int (yfo (ylou H S) H.k 0 (-1))))) : zcall xs (d + 6) 120 (zFx t, IL) [.ref 0] Q :=
  sX7_loudest t IL (l_loudest hH hC hS hB H.k 0 IL (-1) 0 _ (by omega) (fun z => absurd rfl z) zfr_rf hQ)
theorem l_msoftest (hH : yOK H) (hM : yMH H IL0) (hS : yMS 161 S IL0) (h27 : IL0.1 145 27 = -1) (hB : ySB H S) : ∀ (k i : Nat) (IL : zIL) (b : Int32), i + k = H.k → yb1 H.k b → yfm ypw IL0 IL → (∀ IL', yfm ypw IL0 IL' → Q (zFx t, IL') (some (.int (yfo (ysof H S) k i b)))) → gX8_softest xs (d + 5) Q 4 [.ref 145, .int b, .int (nI i)] [] (zFx t, IL)
  | 0, i, IL, b, hi, hb1, fr, hQ => by
    have k6 := hH.k6
    exact sX8_softest_4 t _ _ IL (zd_f (hM.pw fr).cla (by omega) (by omega) (hQ IL fr))
  | k + 1, i, IL, b, hi, hb1, fr, hQ => by
    have k6 := hH.k6
    have hMI := hM.pw fr
    have hSI := hS.pw fr
    unfold yfo at hQ
    have hb2 := yb1_sof (S := S) (c := i) (by omega) hb1
    have go : ∀ (b' : Int32) (IL' : zIL), yfm ypw IL0 IL' → b' = ysof H S i b → gX8_softest xs (d + 5) Q 4 [.ref 145, .int b', .int (nI i + 1)] [] (zFx t, IL') := fun b' IL' f e => by
      rw [nI_1, e]
      exact l_msoftest hH hM hS h27 hB k (i + 1) IL' _ (by omega) hb2 f hQ
    refine sX8_softest_4 t _ _ IL (zd_t hMI.cla (by omega) (by omega) (c_isRead (by omega) (fun hb => kI (z0 ?_)) (fun hb => kI (z1 (go b IL fr ?_)))))
    · rw [hSI 8 (by decide)] at hb
      refine zdec (fun z => go (nI i) IL fr ?_) (fun z => c_creakOf hH hMI hSI (y_h27 h27 fr) hB (by omega) (fun IL1 f1 => kI ?_))
      · unfold ysof; rw [hb, if_neg (by decide), if_pos ((yb1_neg (by omega) hb1).mp z)]
      · have ne := fun e => z ((yb1_neg (by omega) hb1).mpr e)
        obtain ⟨a, ha, rfl⟩ := hb1.resolve_left ne
        have g1 := yfm_tr fr f1
        refine c_creakOf hH (hM.pw g1) (hS.pw g1) (y_h27 h27 g1) hB ha (fun IL2 f2 => kI (zdec (fun z2 => go (nI i) IL2 (yfm_tr g1 f2) ?_) (fun z2 => go (nI a) IL2 (yfm_tr g1 f2) ?_)))
        · unfold ysof; rw [hb, if_neg (by decide), if_neg ne, ycl (by omega), if_pos z2]
        · unfold ysof; rw [hb, if_neg (by decide), if_neg ne, ycl (by omega), if_neg z2]
    · rw [hSI 8 (by decide)] at hb
      unfold ysof; rw [hb]; rfl
theorem m_softest (hH : yOK H) (hM : yMH H IL) (hS : yMS 161 S IL) (h27 : IL.1 145 27 = -1) (hB : ySB H S) (hQ : ∀ IL', yfm ypw IL IL' → Q (zFx t, IL') (some (.int (yfo (ysof H S) H.k 0 (-1))))) : zcall xs (d + 6) 252 (zFx t, IL) [.ref 145] Q :=
  sX8_softest t IL (l_msoftest hH hM hS h27 hB H.k 0 IL (-1) (by omega) (Or.inl rfl) yfm_rf hQ)
theorem l_mloudest (hH : yOK H) (hM : yMH H IL0) (hS : yMS 161 S IL0) (h27 : IL0.1 145 27 = -1) (hB : ySB H S) : ∀ (k i : Nat) (IL : zIL) (b : Int32), i + k = H.k → yb1 H.k b → yfm ypw IL0 IL → (∀ IL', yfm ypw IL0 IL' → Q (zFx t, IL') (some (.int (yfo (ylou H S) k i b)))) → gX8_loudest xs (d + 5) Q 4 [.ref 145, .int b, .int (nI i)] [] (zFx t, IL)
  | 0, i, IL, b, hi, hb1, fr, hQ => by
    have k6 := hH.k6
    exact sX8_loudest_4 t _ _ IL (zd_f (hM.pw fr).cla (by omega) (by omega) (hQ IL fr))
  | k + 1, i, IL, b, hi, hb1, fr, hQ => by
    have k6 := hH.k6
    have hMI := hM.pw fr
    have hSI := hS.pw fr
    unfold yfo at hQ
    have hb2 := yb1_lou (S := S) (c := i) (by omega) hb1
    have go : ∀ (b' : Int32) (IL' : zIL), yfm ypw IL0 IL' → b' = ylou H S i b → gX8_loudest xs (d + 5) Q 4 [.ref 145, .int b', .int (nI i + 1)] [] (zFx t, IL') := fun b' IL' f e => by
      rw [nI_1, e]
      exact l_mloudest hH hM hS h27 hB k (i + 1) IL' _ (by omega) hb2 f hQ
    refine sX8_loudest_4 t _ _ IL (zd_t hMI.cla (by omega) (by omega) (c_isRead (by omega) (fun hb => kI (z0 ?_)) (fun hb => kI (z1 (go b IL fr ?_)))))
    · rw [hSI 8 (by decide)] at hb
      refine zdec (fun z => go (nI i) IL fr ?_) (fun z => c_creakOf hH hMI hSI (y_h27 h27 fr) hB (by omega) (fun IL1 f1 => kI ?_))
      · unfold ylou; rw [hb, if_neg (by decide), if_pos ((yb1_neg (by omega) hb1).mp z)]
      · have ne := fun e => z ((yb1_neg (by omega) hb1).mpr e)
        obtain ⟨a, ha, rfl⟩ := hb1.resolve_left ne
        have g1 := yfm_tr fr f1
        refine c_creakOf hH (hM.pw g1) (hS.pw g1) (y_h27 h27 g1) hB ha (fun IL2 f2 => kI (zdec (fun z2 => go (nI i) IL2 (yfm_tr g1 f2) ?_) (fun z2 => go (nI a) IL2 (yfm_tr g1 f2) ?_)))
        · unfold ylou; rw [hb, if_neg (by decide), if_neg ne, ycl (by omega), if_pos z2]
        · unfold ylou; rw [hb, if_neg (by decide), if_neg ne, ycl (by omega), if_neg z2]
    · rw [hSI 8 (by decide)] at hb
      unfold ylou; rw [hb]; rfl
theorem m_loudest (hH : yOK H) (hM : yMH H IL) (hS : yMS 161 S IL) (h27 : IL.1 145 27 = -1) (hB : ySB H S) (hQ : ∀ IL', yfm ypw IL IL' → Q (zFx t, IL') (some (.int (yfo (ylou H S) H.k 0 (-1))))) : zcall xs (d + 6) 253 (zFx t, IL) [.ref 145] Q :=
  sX8_loudest t IL (l_mloudest hH hM hS h27 hB H.k 0 IL (-1) (by omega) (Or.inl rfl) yfm_rf hQ)
theorem yb1_ten {m : Nat} {b : Int32} (hm : m < H.n) (h : yb1 H.n b) : yb1 H.n (yten S m b) := by
  unfold yten
  split
  · split
    · exact Or.inr ⟨m, hm, rfl⟩
    · split
      · exact Or.inr ⟨m, hm, rfl⟩
      · exact h
  · exact h
theorem l_tensest (hH : yOK H) (hC : yCH t H IL) (hS : yCS 22 S IL) (hB : ySB H S) : ∀ (k i : Nat) (b y : Int32), i + k = H.n → (b = -1 → y = -1) → (¬ b = -1 → y = S b.toNatClampNeg) → Q (zFx t, IL) (some (.int (yfo (yten S) k i b))) → gX7_tensest xs (d + 1) Q 6 [.ref 0, .int b, .int y, .int (nI i)] [] (zFx t, IL)
  | 0, i, b, y, hi, hy1, hy, hQ => by
    have n7 := hH.n7
    exact sX7_tensest_6 t _ _ _ IL (zd_f hC.mem (by omega) (by omega) hQ)
  | k + 1, i, b, y, hi, hy1, hy, hQ => by
    have n7 := hH.n7
    unfold yfo at hQ
    have nn : ¬ nI i = -1 := fun e => absurd (show (nI i) < 0 by rw [e]; decide) (nI_pos (by omega))
    have go : ∀ (b' y' : Int32), b' = yten S i b → (b' = -1 → y' = -1) → (¬ b' = -1 → y' = S b'.toNatClampNeg) → gX7_tensest xs (d + 1) Q 6 [.ref 0, .int b', .int y', .int (nI i + 1)] [] (zFx t, IL) := fun b' y' e h1 h2 => by
      rw [nI_1]
      exact l_tensest hH hC hS hB k (i + 1) b' y' (by omega) h1 h2 (by rw [e]; exact hQ)
    refine sX7_tensest_6 t _ _ _ IL (zd_t hC.mem (by omega) (by omega) ?_)
    rw [hS.out]
    refine c_has (by omega) (fun hb => kI (z0 (go b y (by unfold yten; rw [hb]; rfl) hy1 hy))) (fun hb => kI (z1 (zix_n (by omega) (by omega) ?_)))
    rw [ycl (by omega), show IL.1 23 i = S i from hS.no i (by omega)]
    have s0 := (hB.no i (by omega)).1
    refine zdec (fun z => zix_n (by omega) (by omega) (go (nI i) (S i) ?_ (fun e => absurd e nn) (fun _ => by rw [ycl (by omega)]))) (fun z => go b y ?_ hy1 hy)
    · unfold yten
      rw [hb, if_pos rfl]
      by_cases e : b = -1
      · rw [if_pos e]
      · rw [if_neg e, if_pos (by rw [← hy e]; exact z)]
    · unfold yten
      rw [hb, if_pos rfl]
      by_cases e : b = -1
      · refine absurd ?_ z
        rw [hy1 e, Int32.lt_iff_toInt_lt]
        have : (-1 : Int32).toInt = -1 := by decide
        omega
      · rw [if_neg e, if_neg (by rw [← hy e]; exact z)]
theorem c_tensest (hH : yOK H) (hC : yCH t H IL) (hS : yCS 22 S IL) (hB : ySB H S) (hQ : Q (zFx t, IL) (some (.int (yfo (yten S) H.n 0 (-1))))) : zcall xs (d + 2) 121 (zFx t, IL) [.ref 0] Q :=
  sX7_tensest t IL (l_tensest hH hC hS hB H.n 0 (-1) (-1) (by omega) (fun _ => rfl) (fun z => absurd rfl z) hQ)
theorem l_mtensest (hH : yOK H) (hM : yMH H IL) (hS : yMS 161 S IL) : ∀ (k i : Nat) (b : Int32), i + k = H.n → yb1 H.n b → Q (zFx t, IL) (some (.int (yfo (yten S) k i b))) → gX8_tensest xs (d + 1) Q 4 [.ref 145, .int b, .int (nI i)] [] (zFx t, IL)
  | 0, i, b, hi, hb1, hQ => by
    have n7 := hH.n7
    exact sX8_tensest_4 t _ _ IL (zd_f hM.mem (by omega) (by omega) hQ)
  | k + 1, i, b, hi, hb1, hQ => by
    have n7 := hH.n7
    unfold yfo at hQ
    have hb2 := yb1_ten (S := S) (m := i) (by omega) hb1
    have go : ∀ (b' : Int32), b' = yten S i b → gX8_tensest xs (d + 1) Q 4 [.ref 145, .int b', .int (nI i + 1)] [] (zFx t, IL) := fun b' e => by
      rw [nI_1, e]
      exact l_mtensest hH hM hS k (i + 1) _ (by omega) hb2 hQ
    refine sX8_tensest_4 t _ _ IL (zd_t hM.mem (by omega) (by omega) (c_misOut (by omega) hS (fun hb => kI (z0 (go b (by unfold yten; rw [hb]; rfl)))) (fun hb => kI (z1 (zdec (fun z => go (nI i) ?_) (fun z => zix_n (by omega) (by omega) ?_))))))
    · unfold yten
      rw [hb, if_pos rfl, if_pos ((yb1_neg (by omega) hb1).mp z)]
    · have ne := fun e => z ((yb1_neg (by omega) hb1).mpr e)
      obtain ⟨a, ha, rfl⟩ := hb1.resolve_left ne
      refine zix_n (by omega) (by omega) ?_
      rw [ycl (by omega), ycl (by omega), hS a (by omega), hS i (by omega)]
      refine zdec (fun z2 => go (nI i) ?_) (fun z2 => go (nI a) ?_)
      · unfold yten; rw [hb, if_pos rfl, if_neg ne, ycl (by omega), if_pos z2]
      · unfold yten; rw [hb, if_pos rfl, if_neg ne, ycl (by omega), if_neg z2]
theorem m_tensest (hH : yOK H) (hM : yMH H IL) (hS : yMS 161 S IL) (hQ : Q (zFx t, IL) (some (.int (yfo (yten S) H.n 0 (-1))))) : zcall xs (d + 2) 259 (zFx t, IL) [.ref 145] Q :=
  sX8_tensest t IL (l_mtensest hH hM hS H.n 0 (-1) (by omega) (Or.inl rfl) hQ)
theorem l_cross (hH : yOK H) (hC : yCH t H IL) (hS : yCS 22 S IL) : ∀ (k i : Nat), i + k = H.n → Q (zFx t, IL) (some (.int (yset (ycro H S) H.n))) → gX7_cross xs (d + 1) Q 4 [.ref 0, .int (yset (ycro H S) i), .int (nI i)] [] (zFx t, IL)
  | 0, i, hi, hQ => by
    have n7 := hH.n7
    have e : i = H.n := by omega
    subst e
    exact sX7_cross_4 t _ _ IL (zd_f hC.mem (by omega) (by omega) hQ)
  | k + 1, i, hi, hQ => by
    have n7 := hH.n7
    have ih := l_cross hH hC hS k (i + 1) (by omega) hQ
    refine sX7_cross_4 t _ _ IL (zd_t hC.mem (by omega) (by omega) ?_)
    rw [hS.out]
    refine c_has (by omega) (fun hb => kI (z0 ?_)) (fun hb => kI (z1 (zix_n (by omega) (by omega) ?_)))
    · rw [yset, if_neg (by unfold ycro; rw [hb]; exact Bool.false_ne_true)] at ih
      rw [nI_1]
      exact ih
    · rw [ycl (by omega), show IL.1 23 i = S i from hS.no i (by omega), hC.cock, nI_1]
      refine zdec (fun z => ?_) (fun z => ?_)
      · rw [yset, if_neg (by unfold ycro; rw [hb, decide_eq_true z]; decide)] at ih
        exact ih
      · rw [yset, if_pos (by unfold ycro; rw [hb, decide_eq_false z]; rfl)] at ih
        exact ih
theorem c_cross (hH : yOK H) (hC : yCH t H IL) (hS : yCS 22 S IL) (hQ : Q (zFx t, IL) (some (.int (yset (ycro H S) H.n)))) : zcall xs (d + 2) 123 (zFx t, IL) [.ref 0] Q :=
  sX7_cross t IL (l_cross hH hC hS H.n 0 (by omega) hQ)
theorem l_mcross (hH : yOK H) (hM : yMH H IL) (hS : yMS 161 S IL) : ∀ (k i : Nat), i + k = H.n → Q (zFx t, IL) (some (.int (yset (ycro H S) H.n))) → gX8_cross xs (d + 1) Q 4 [.ref 145, .int (yset (ycro H S) i), .int (nI i)] [] (zFx t, IL)
  | 0, i, hi, hQ => by
    have n7 := hH.n7
    have e : i = H.n := by omega
    subst e
    exact sX8_cross_4 t _ _ IL (zd_f hM.mem (by omega) (by omega) hQ)
  | k + 1, i, hi, hQ => by
    have n7 := hH.n7
    have ih := l_mcross hH hM hS k (i + 1) (by omega) hQ
    refine sX8_cross_4 t _ _ IL (zd_t hM.mem (by omega) (by omega) (c_misOut (by omega) hS (fun hb => kI (z0 (c_truth0 (kI ?_)))) (fun hb => kI (z1 (zix_n (by omega) (by omega) ?_)))))
    · rw [yset, if_neg (by unfold ycro; rw [hb]; exact Bool.false_ne_true)] at ih
      rw [nI_1, yshl0 (by omega), yor0]
      exact ih
    · rw [ycl (by omega), hS i (by omega), hM.cock, nI_1]
      refine zdec (fun z => c_truth0 (kI ?_)) (fun z => c_truth1 (kI ?_))
      · rw [yset, if_neg (by unfold ycro; rw [hb, decide_eq_true z]; decide)] at ih
        rw [yshl0 (by omega), yor0]
        exact ih
      · rw [yset, if_pos (by unfold ycro; rw [hb, decide_eq_false z]; rfl)] at ih
        exact ih
theorem m_cross (hH : yOK H) (hM : yMH H IL) (hS : yMS 161 S IL) (hQ : Q (zFx t, IL) (some (.int (yset (ycro H S) H.n)))) : zcall xs (d + 2) 261 (zFx t, IL) [.ref 145] Q :=
  sX8_cross t IL (l_mcross hH hM hS H.n 0 (by omega) hQ)
theorem l_until {m : Nat} {x2 q : Int32} (hH : yOK H) (hC : yCH t H IL0) (hm : m < H.n) (hfa : fa = 0 ∨ fa = 1) : ∀ (k i : Nat) (IL : zIL) (no : Int32), i + k = 60 → zfr (ytf t) IL0 IL → (∀ IL', zfr (ytf t) IL0 IL' → Q (zFx t, IL') (some (.int (yunt H S m q fa k i no)))) → gX7_until xs (d + 3) Q 66 [.ref 0, .int (nI m), .int x2, .int fa, .int q, .int (H.mi m), .int (yre S), .int no, .int (nI i)] [] (zFx t, IL)
  | 0, i, IL, no, hi, fr, hQ => sX7_until_66 t _ _ _ _ _ _ _ _ IL (zd_f (n := 60) rfl (by omega) (by omega) (hQ IL fr))
  | k + 1, i, IL, no, hi, fr, hQ => by
    have n7 := hH.n7
    have hCI := hC.tf fr
    unfold yunt at hQ
    have key : ∀ IL1, zfr [zH t + 5, zH t + 7] IL IL1 → zif2 (decide (no + zcwd no (zwv H.ss q (H.mi m) (H.vo m) no fa (yre S + nI i)) < IL1.1 (zH t) 6)) (gX7_until xs (d + 3) Q 66 [.ref 0, .int (nI m), .int x2, .int fa, .int q, .int (H.mi m), .int (yre S), .int (no + zcwd no (zwv H.ss q (H.mi m) (H.vo m) no fa (yre S + nI i))), .int (nI i + 1)] [] (zFx t, IL1)) (Q (zFx t, IL1) (some (.int (nI i + 1)))) := fun IL1 f1 => by
      have f := zfr_tr fr (ytf_5 f1)
      rw [(hC.tf f).cock, nI_1]
      refine zdec (fun z => ?_) (fun z => ?_)
      · exact l_until hH hC hm hfa k (i + 1) IL1 _ (by omega) f (fun IL' f' => by
          have := hQ IL' f'
          rw [if_pos (show ynw no _ < H.cock from z)] at this
          exact this)
      · have := hQ IL1 f
        rw [if_neg (show ¬ ynw no _ < H.cock from z)] at this
        exact this
    refine sX7_until_66 t _ _ _ _ _ _ _ _ IL (zd_t (n := 60) rfl (by omega) (by omega) (zdec (fun z => ?_) (fun z => ?_)))
    · refine c_windOf (vo := H.vo m) hH.ss (by omega) hCI.len hCI.ss (hCI.vo m hm) (fun IL1 f1 => kI ?_)
      have := key IL1 f1
      rw [z] at this
      rw [z]
      exact this
    · refine c_windOf (vo := H.vo m) hH.ss (by omega) hCI.len hCI.ss (hCI.vo m hm) (fun IL1 f1 => kI ?_)
      have := key IL1 f1
      rw [hfa.resolve_left z] at this
      rw [hfa.resolve_left z]
      exact this
def r_until (H : yH) (S : Nat → Int32) (x y fa : Int32) : Int32 := yoc H S x y (-1) (yunt H S x.toNatClampNeg (H.sh y.toNatClampNeg) fa 60 0 (S x.toNatClampNeg))
theorem c_until {x y : Int32} (hH : yOK H) (hC : yCH t H IL) (hS : yCS 22 S IL) (hB : ySB H S) (hfa : fa = 0 ∨ fa = 1) (hQ : ∀ IL', zfr (ytf t) IL IL' → Q (zFx t, IL') (some (.int (r_until H S x y fa)))) : zcall xs (d + 4) 126 (zFx t, IL) [.ref 0, .int x, .int y, .int fa] Q := by
  have k6 := hH.k6
  have n7 := hH.n7
  unfold r_until at hQ
  have hq := hQ IL zfr_rf
  refine sX7_until t _ _ _ IL (c_isOut hH hC hS (fun h => kI (z0 ?_)) (fun m hm e ho => kI (z1 (c_isClause hH hC (fun h => kI (z0 ?_)) (fun c hc ec h => kI (z1 ?_))))))
  · rw [yoc_1 h] at hq; exact hq
  · subst e
    rw [yoc_2 n7 hm ho, yisM_n h] at hq; exact hq
  · subst e
    subst ec
    refine zix_n (by omega) (by omega) (zix_n (by omega) (by omega) (c_bitCount (kI (zix_n (by omega) (by omega) ?_))))
    rw [yoc_2 n7 hm ho, yisM_y h, ycl (by omega), ycl (by omega)] at hQ
    rw [ycl (by omega), ycl (by omega), hC.sh c hc, hC.mi m hm, hS.read, y_cnt (fun i hi => hB.read i (by omega)), show IL.1 23 m = S m from hS.no m (by omega)]
    exact l_until hH hC hm hfa 60 0 IL _ (by omega) zfr_rf hQ
theorem l_muntil {m c : Nat} (hH : yOK H) (hM : yMH H IL0) (hS : yMS 161 S IL0) (h27 : IL0.1 145 27 = -1) (hm : m < H.n) (hc : c < H.k) (hfa : fa = 0 ∨ fa = 1) : ∀ (k i : Nat) (IL : zIL) (no : Int32), i + k = 60 → yin no 0 99 → yfm ypw IL0 IL → (∀ IL', yfm ypw IL0 IL' → Q (zFx t, IL') (some (.int (yunt H S m (H.sh c) fa k i no)))) → gX8_until xs (d + 3) Q 37 [.ref 145, .int (nI m), .int (nI c), .int fa, .int no, .int (nI (i + 1))] [] (zFx t, IL)
  | 0, i, IL, no, hi, hno, fr, hQ => sX8_until_37 t _ _ _ _ _ IL (zdec (fun _ => hQ IL fr) (fun z => absurd (nI_lt (a := 60) (by omega) (by omega)) z))
  | k + 1, i, IL, no, hi, hno, fr, hQ => by
    have n7 := hH.n7
    have k6 := hH.k6
    have hMI := hM.pw fr
    have hSI := hS.pw fr
    unfold yunt at hQ
    have e0 : ∀ r : Int32, r + nI (i + 1) - 1 = r + nI i := fun r => by rw [← nI_1, ← Int32.add_assoc, Int32.add_sub_cancel]
    refine sX8_until_37 t _ _ _ _ _ IL (zdec (fun z => absurd z (nI_nlt (b := i + 1) (a := 60) (by omega) (by omega))) (fun _ => zix_n (by omega) (by omega) (c_tr01 hfa (kI (c_members (kI ?_))))))
    rw [hSI 8 (by decide), show ymc (S 8) 7 0 0 = yre S from rfl, e0, ycl (by omega), hMI.sh c hc]
    refine c_mwindOf (ss := H.ss) (mi := H.mi m) (vo := H.vo m) hH.ss hH.bk (by omega) hMI.form hMI.len hMI.ss (hMI.vo m hm) (by rw [y_h27 h27 fr, if_pos (by decide), hMI.mi m hm]) (fun IL2 f2 => kI (c_greater (kI ?_)))
    have g : yfm ypw IL0 IL2 := yfm_tr fr (yfm_zfr f2 (fun c hc j => by
      simp only [List.mem_cons, List.not_mem_nil, or_false] at hc
      rcases hc with rfl | rfl <;> rfl))
    rw [y_wind hno, (hM.pw g).cock, nI_1]
    have en : (ynw no (zwv H.ss (H.sh c) (H.mi m) (H.vo m) no fa (yre S + nI i))).toInt = _ := ynw_i hno
    refine zdec (fun z => ?_) (fun z => ?_)
    · refine l_muntil hH hM hS h27 hm hc hfa k (i + 1) IL2 _ (by omega) (yin_lt z ⟨by have := hH.cock.1; omega, by have := hH.cock.2; omega⟩ (by rw [en]; omega)) g (fun IL' f' => ?_)
      have := hQ IL' f'
      rw [if_pos z] at this
      exact this
    · have := hQ IL2 g
      rw [if_neg z] at this
      exact this
theorem m_until {x y : Int32} (hH : yOK H) (hM : yMH H IL) (hS : yMS 161 S IL) (h27 : IL.1 145 27 = -1) (hB : ySB H S) (hfa : fa = 0 ∨ fa = 1) (hQ : ∀ IL', yfm ypw IL IL' → Q (zFx t, IL') (some (.int (r_until H S x y fa)))) : zcall xs (d + 4) 263 (zFx t, IL) [.ref 145, .int x, .int y, .int fa] Q := by
  have k6 := hH.k6
  have n7 := hH.n7
  unfold r_until at hQ
  have hq := hQ IL yfm_rf
  refine sX8_until t _ _ _ IL (c_misMember hH hM (fun h => kI (z0 ?_)) (fun m hm e hx => kI (z1 ?_)))
  · rw [yoc_1 (fun v => yisM_n h)] at hq; exact hq
  subst e
  refine c_misOut (by omega) hS (fun ho => kI (z0 ?_)) (fun ho => kI (z1 (c_misClause hH hM (fun h => kI (z0 ?_)) (fun c hc ec h => kI (z1 (zix_n (by omega) (by omega) ?_))))))
  · rw [yoc_3 n7 hm ho] at hq; exact hq
  · rw [yoc_2 n7 hm ho, yisM_n h] at hq; exact hq
  · subst ec
    rw [yoc_2 n7 hm ho, yisM_y h, ycl (by omega), ycl (by omega)] at hQ
    rw [ycl (by omega), hS m (by omega)]
    exact l_muntil hH hM hS h27 hm hc hfa 60 0 IL _ (by omega) (hB.no m (by omega)) yfm_rf hQ
end CREAK
