/-! readings in thought: the class's side -/
theorem zSt_22 (t : Bool) : zSt t 22 := by cases t <;> exact ⟨fun _ => rfl, fun _ => rfl, fun _ => rfl⟩
theorem zSt_24 (t : Bool) : zSt t 24 := by cases t <;> exact ⟨fun _ => rfl, fun _ => rfl, fun _ => rfl⟩
theorem zk24 {t : Bool} {IL : zIL} {P : Prop} (p : P) : zck (zS (zFx t, IL) 24) 6 P := by
  rw [(zSt_24 t).1, zck_r]
  exact p
/-- an answer for a clause that isn't read -/
def yun (H : yH) (S : Nat → Int32) (x v : Int32) : Int32 := if x < 0 then -1 else if x < nI H.k then (if bt (S 8) x.toNatClampNeg then -1 else v) else -1
def ymb (n : Nat) (x v : Int32) : Int32 := if x < 0 then -1 else if x < nI n then v else -1
def ywl (H : yH) (w : Bool) (r : Int32) : Nat → Nat → Nat → (Nat → Int32) → (Nat → Int32)
  | 0, _, _, S => S
  | _ + 1, _, 0, S => S
  | k + 1, c, l + 1, S => if bt r c then ywl H w r k (c + 1) (l + 1) S else ywl H w r k (c + 1) l (if w then ypun H (ysit H (-1) (H.sh c) 0 c S) else ysit H (-1) (H.sh c) 0 c S)
def ylo (H : yH) (fa r : Int32) : Nat → Nat → (Nat → Int32) → Int32
  | 0, _, _ => -1
  | k + 1, c, S => if bt r c then ylo H fa r k (c + 1) S else if ypas H (-1) (H.sh c) fa S then ylo H fa r k (c + 1) (ysit H (-1) (H.sh c) fa c S) else nI c
def yed (p : Nat → Bool) : Nat → Int32
  | 0 => -1
  | k + 1 => if p k then nI k else yed p k
def yS' (S : Nat → Int32) (m : Nat) (v : Int32) (j : Nat) : Int32 := if j = m then v else S j
def yus (H : yH) (fa : Int32) (S : Nat → Int32) (m : Nat) (p : Int32 × Int32) : Int32 × Int32 :=
  if bt (S 7) m then (if p.1 < yal H (-1) (fun _ => fa) (S 8) H.k 0 (yS' S m (zmax 0 (S m - 1))) 0 then (yal H (-1) (fun _ => fa) (S 8) H.k 0 (yS' S m (zmax 0 (S m - 1))) 0, nI m) else p) else p
def ysw1 (H : yH) (fa : Int32) (S : Nat → Int32) (a b : Nat) (p : Int32 × Int32 × Int32) : Int32 × Int32 × Int32 :=
  if bt (S 7) a && bt (S 7) b then (if p.1 < yal H (-1) (fun _ => fa) (S 8) H.k 0 (yS' (yS' S a (S b)) b (S a)) 0 then (yal H (-1) (fun _ => fa) (S 8) H.k 0 (yS' (yS' S a (S b)) b (S a)) 0, nI a, nI b) else p) else p
def ysw (H : yH) (fa : Int32) (S : Nat → Int32) (a : Nat) (p : Int32 × Int32 × Int32) : Int32 × Int32 × Int32 := yfo (ysw1 H fa S a) (H.n - (a + 1)) (a + 1) p
def yton (H : yH) (S : Nat → Int32) (i : Nat) (p : Int32 × Int32) : Int32 × Int32 :=
  if nI i &&& S 8 = 0 then (if p.1 < yal H (-1) (fun c => if bt (nI i) c then 1 else 0) (S 8) H.k 0 S 0 then (yal H (-1) (fun c => if bt (nI i) c then 1 else 0) (S 8) H.k 0 S 0, nI i)
    else if yal H (-1) (fun c => if bt (nI i) c then 1 else 0) (S 8) H.k 0 S 0 = p.1 then (if ymc (nI i) 7 0 0 < ymc p.2 7 0 0 then (yal H (-1) (fun c => if bt (nI i) c then 1 else 0) (S 8) H.k 0 S 0, nI i) else p) else p) else p
theorem ySB_pun {H : yH} {S : Nat → Int32} (hH : yOK H) (hB : ySB H S) : ySB H (ypun H S) := by
  have n7 := hH.n7
  have hi : ∀ j, 7 ≤ j → j ≠ 10 → ypun H S j = S j := fun j h1 h2 => ypu_hi (by omega) h2
  refine ySB.mk (fun j hj => ?_) (fun j hj hb => ?_) (fun i h => ?_) (fun i h => ?_) (fun i h => ?_) ?_
  · unfold ypun ypu
    rw [if_neg (by omega)]
    split
    · have := hB.no j hj
      have h1 := this.1
      have h2 := this.2
      have e1 : (1 : Int32).toInt = 1 := by decide
      have e2 : (99 : Int32).toInt = 99 := by decide
      have e3 : (S j + 1).toInt = (S j).toInt + 1 := by rw [i_add (by omega) (by omega) (by omega) (by omega), e1]
      unfold yin
      rw [zmin_i, e2, e3]
      omega
    · exact hB.no j hj
  · rw [hi 7 (by decide) (by decide)] at hb
    unfold ypun ypu
    rw [if_neg (by omega), if_neg (fun z => by rw [hb] at z; cases z.2.1)]
    exact hB.inn j hj hb
  · rw [hi 7 (by decide) (by decide)]; exact hB.out i h
  · rw [hi 8 (by decide) (by decide)]; exact hB.read i h
  · rw [hi 9 (by decide) (by decide)]; exact hB.car i h
  · unfold ypun
    rw [ypu_10]
    have h1 := hB.seed.1
    have h2 := hB.seed.2
    obtain ⟨n, hn, e⟩ : ∃ n, n < 1000 ∧ S 10 = nI n := by
      refine ⟨(S 10).toInt.toNat, by omega, ?_⟩
      apply Int32.toInt_inj.mp
      rw [nI_toInt (by omega)]
      omega
    rw [e]
    have key : ∀ n, n < 1000 → 0 ≤ (ysd (nI n)).toInt ∧ (ysd (nI n)).toInt ≤ 999 := by decide +kernel
    exact key n hn
theorem ybws_in {S : Nat → Int32} (h : ∀ j, j < 7 → yin (S j) 0 99) : ∀ k m, m + k ≤ 7 → ∀ v, v ∈ ybws S k m → yin v 0 99
  | 0, _, _, v, hv => by cases hv
  | k + 1, m, hm, v, hv => by
    unfold ybws at hv
    split at hv
    · rcases List.mem_cons.mp hv with e | e
      · rw [e]; exact h m (by omega)
      · exact ybws_in h k (m + 1) (by omega) v e
    · exact ybws_in h k (m + 1) (by omega) v hv
theorem ySB_chg {H : yH} {S : Nat → Int32} (hH : yOK H) (hB : ySB H S) : ySB H (ychg H S) := by
  have n7 := hH.n7
  have e7 : ychg H S 7 = ((1 <<< (nI H.n &&& 31)) - 1) &&& (S 7 ^^^ (-1)) := by unfold ychg; rw [if_pos rfl]
  have hh : ∀ j, 7 < j → ychg H S j = S j := fun j hj => by unfold ychg; rw [if_neg (by omega), if_neg (by omega)]
  refine ySB.mk (fun j hj => ?_) (fun j hj hb => ?_) (fun i h => ?_) (fun i h => ?_) (fun i h => ?_) ?_
  · unfold ychg
    rw [if_neg (by omega)]
    split
    · split
      · exact ⟨by decide, by decide⟩
      · rw [List.getD_eq_getElem?_getD]
        cases e : (ybws S H.n 0)[yrk S j]? with
        | none => exact ⟨by decide, by decide⟩
        | some v => exact ybws_in hB.no H.n 0 (by omega) v (List.mem_of_getElem? e)
    · exact hB.no j hj
  · rw [e7, b_nout n7 _ (by omega)] at hb
    unfold ychg
    rw [if_neg (by omega)]
    by_cases a : j < H.n
    · rw [if_pos a]
      rw [decide_eq_true a] at hb
      cases e : bt (S 7) j
      · rw [e] at hb; cases hb
      · rfl
    · rw [if_neg a]
      exact hB.inn j hj (hB.out j (by omega))
  · rw [e7]
    rcases Nat.lt_or_ge i 32 with q | q
    · rw [b_nout n7 _ q, decide_eq_false (by omega)]; rfl
    · exact b_big q
  · rw [hh 8 (by decide)]; exact hB.read i h
  · rw [hh 9 (by decide)]; exact hB.car i h
  · rw [hh 10 (by decide)]; exact hB.seed
theorem ySB_S' {H : yH} {S : Nat → Int32} (hB : ySB H S) {m : Nat} (hm : m < 7) {v : Int32} (hv : yin v 0 99) (ho : bt (S 7) m = true) : ySB H (yS' S m v) := by
  have hh : ∀ j, 7 ≤ j → yS' S m v j = S j := fun j hj => by unfold yS'; rw [if_neg (by omega)]
  refine ySB.mk (fun j hj => ?_) (fun j hj hb => ?_) (fun i h => ?_) (fun i h => ?_) (fun i h => ?_) ?_
  · unfold yS'
    split
    · exact hv
    · exact hB.no j hj
  · rw [hh 7 (by decide)] at hb
    unfold yS'
    by_cases e : j = m
    · rw [e, ho] at hb; cases hb
    · rw [if_neg e]; exact hB.inn j hj hb
  · rw [hh 7 (by decide)]; exact hB.out i h
  · rw [hh 8 (by decide)]; exact hB.read i h
  · rw [hh 9 (by decide)]; exact hB.car i h
  · rw [hh 10 (by decide)]; exact hB.seed
theorem zmax_1 {x : Int32} (h : yin x 0 99) : yin (zmax 0 (x - 1)) 0 99 := by
  have e1 : (1 : Int32).toInt = 1 := by decide
  have h1 := h.1
  have h2 := h.2
  unfold yin
  rw [zmax_i, y0, i_sub (by omega) (by omega) (by omega) (by omega), e1]
  omega
section THINK
variable {xs : List Int32} {d : Nat} {Q : zQ} {t : Bool} {IL IL0 : zIL} {H : yH} {fa : Int32} {S : Nat → Int32}
/-- what thinking leaves -/
def ytf (t : Bool) : List Nat := [24, 25, zH t + 5, zH t + 7]
theorem ytf_sit {A B : zIL} (h : zfr [24, 24 + 1, zH t + 5, zH t + 7] A B) : zfr (ytf t) A B := h
theorem ytf_2 {A B : zIL} (h : zfr [24, 24 + 1] A B) : zfr (ytf t) A B := zfr_le h (fun c hc => by
  unfold ytf
  simp only [List.mem_cons, List.not_mem_nil, or_false] at hc ⊢
  omega)
theorem ytf_w {j : Nat} {v : Int32} : zfr (ytf t) IL (zwi IL 25 j v) := zfr_wi (by unfold ytf; simp)
theorem yCH.tf {u : Bool} {A B : zIL} (h : yCH u H A) (f : zfr (ytf u) A B) : yCH u H B := h.zf (s := 24) (by decide) f
theorem yCS.tf {s : Nat} {A B : zIL} (h : yCS s S A) (f : zfr (ytf t) A B) (h1 : s = 22 ∨ 26 ≤ s) : yCS s S B := h.fr (f.1 _ (by
  have := zH_le t
  unfold ytf
  simp only [List.mem_cons, List.not_mem_nil, or_false]
  omega)) (f.1 _ (by
  have := zH_le t
  unfold ytf
  simp only [List.mem_cons, List.not_mem_nil, or_false]
  omega))
theorem yqc_tf {A B : zIL} (h : zfr (ytf t) A B) : yqc A B := yqc_zf h (fun c hc => by
  unfold ytf at hc
  simp only [List.mem_cons, List.not_mem_nil, or_false] at hc
  cases t
  · have : zH false = 6 := rfl
    rw [this] at hc
    rcases hc with rfl | rfl | rfl | rfl <;> rfl
  · have : zH true = 14 := rfl
    rw [this] at hc
    rcases hc with rfl | rfl | rfl | rfl <;> rfl)
theorem c_trial (hS : yCS 22 S IL) (hQ : ∀ IL', zfr (ytf t) IL IL' → yCS 24 S IL' → Q (zFx t, IL') (some (.ref 24))) : zcall xs (d + 2) 143 (zFx t, IL) [.ref 0] Q :=
  sX7_trialFromNow t IL (c_copy (zSt_24 t) (zSt_22 t) ⟨by decide, by decide, by decide⟩ hS (fun IL' f s => (kV (hQ IL' (ytf_2 f) s))))
theorem c_isUnread {x : Int32} (hH : yOK H) (hC : yCH t H IL) (hS : yCS 22 S IL) (h0 : (∀ v, yun H S x v = -1) → Q (zFx t, IL) (some (.int 0))) (h1 : ∀ c, c < H.k → x = nI c → bt (S 8) c = false → (∀ v, yun H S x v = v) → Q (zFx t, IL) (some (.int 1))) : zcall xs (d + 2) 142 (zFx t, IL) [.ref 0, .int x] Q := by
  have k6 := hH.k6
  refine sX7_isUnread t x IL (c_isClause hH hC (fun h => (kI (h0 (fun v => yisM_n h)))) (fun c hc e h => (kI ?_)))
  subst e
  refine z1 ?_
  rw [hS.read]
  refine c_has (by omega) (fun hb => (kI (h1 c hc rfl hb (fun v => ?_)))) (fun hb => (kI (h0 (fun v => ?_))))
  · unfold yun
    rw [yisM_y h, ycl (by omega), hb]
    rfl
  · unfold yun
    rw [yisM_y h, ycl (by omega), hb]
    rfl
theorem c_carries {x : Int32} (hH : yOK H) (hC : yCH t H IL) (hS : yCS 22 S IL) (hB : ySB H S) (hfa : fa = 0 ∨ fa = 1) (hQ : ∀ IL', zfr (ytf t) IL IL' → Q (zFx t, IL') (some (.int (yun H S x (if ypas H (-1) (H.sh x.toNatClampNeg) fa S then 1 else 0))))) : zcall xs (d + 6) 99 (zFx t, IL) [.ref 0, .int x, .int fa] Q := by
  have k6 := hH.k6
  refine sX7_carries t _ _ IL (c_isUnread hH hC hS (fun h => kI (z0 ?_)) (fun c hc e hb h => kI (z1 ?_)))
  · have := hQ IL zfr_rf
    rw [h] at this
    exact this
  · subst e
    show zcall xs (d + 5) 143 _ _ _
    refine c_trial hS (fun IL1 f1 s1 => (kA ?_))
    refine zk24 ?_
    refine c_sit (zSt_24 t) (by decide) hH hfa hc (hC.tf f1) s1 hB (fun IL2 f2 _ _ _ => (kI ?_))
    have := hQ IL2 (zfr_tr f1 f2)
    rw [h, ycl (by omega)] at this
    revert this
    cases ypas H (-1) (H.sh c) fa S <;> exact id
theorem c_shots {x : Int32} (hH : yOK H) (hC : yCH t H IL) (hS : yCS 22 S IL) (hB : ySB H S) (hfa : fa = 0 ∨ fa = 1) (hQ : ∀ IL', zfr (ytf t) IL IL' → Q (zFx t, IL') (some (.int (yun H S x (yset (yoff H (-1) (H.sh x.toNatClampNeg) fa S) H.n))))) : zcall xs (d + 6) 100 (zFx t, IL) [.ref 0, .int x, .int fa] Q := by
  have k6 := hH.k6
  refine sX7_shots t _ _ IL (c_isUnread hH hC hS (fun h => kI (z0 ?_)) (fun c hc e hb h => kI (z1 ?_)))
  · have := hQ IL zfr_rf
    rw [h] at this
    exact this
  · subst e
    show zcall xs (d + 5) 143 _ _ _
    refine c_trial hS (fun IL1 f1 s1 => (kA ?_))
    refine zk24 ?_
    refine c_sit (zSt_24 t) (by decide) hH hfa hc (hC.tf f1) s1 hB (fun IL2 f2 _ e5 _ => (kI ?_))
    have := hQ IL2 (zfr_tr f1 f2)
    rw [h, ycl (by omega)] at this
    rw [e5]
    exact this
theorem c_backers {x : Int32} (hH : yOK H) (hC : yCH t H IL) (hS : yCS 22 S IL) (hB : ySB H S) (hfa : fa = 0 ∨ fa = 1) (hQ : ∀ IL', zfr (ytf t) IL IL' → Q (zFx t, IL') (some (.int (yun H S x (yset (yfor H (-1) (H.sh x.toNatClampNeg) fa S) H.n))))) : zcall xs (d + 6) 101 (zFx t, IL) [.ref 0, .int x, .int fa] Q := by
  have k6 := hH.k6
  refine sX7_backers t _ _ IL (c_isUnread hH hC hS (fun h => kI (z0 ?_)) (fun c hc e hb h => kI (z1 ?_)))
  · have := hQ IL zfr_rf
    rw [h] at this
    exact this
  · subst e
    show zcall xs (d + 5) 143 _ _ _
    refine c_trial hS (fun IL1 f1 s1 => (kA ?_))
    refine zk24 ?_
    refine c_sit (zSt_24 t) (by decide) hH hfa hc (hC.tf f1) s1 hB (fun IL2 f2 _ _ e6 => (kI ?_))
    have := hQ IL2 (zfr_tr f1 f2)
    rw [h, ycl (by omega)] at this
    rw [e6]
    exact this
theorem l_edge {c : Nat} (hH : yOK H) (hC : yCH t H IL0) (hS : yCS 22 S IL0) (hB : ySB H S) (hfa : fa = 0 ∨ fa = 1) (hc : c < H.k) : ∀ (k : Nat) (IL : zIL) (x : Int32), k ≤ 21 → x = nI k - 1 → zfr (ytf t) IL0 IL → (∀ IL', zfr (ytf t) IL0 IL' → Q (zFx t, IL') (some (.int (yed (fun q => ypas H (-1) (nI q) fa S) k)))) → gX7_edge xs (d + 4) Q 13 [.ref 0, .int (nI c), .int fa, .int x] [] (zFx t, IL)
  | 0, IL, x, hk, hx, fr, hQ => by
    refine sX7_edge_13 t _ _ _ IL (zdec (fun _ => hQ IL fr) (fun z => absurd ?_ z))
    rw [hx]
    decide
  | k + 1, IL, x, hk, hx, fr, hQ => by
    rw [nI_pred] at hx
    subst hx
    unfold yed at hQ
    refine sX7_edge_13 t _ _ _ IL (zdec (fun z => absurd z (nI_pos (by omega))) (fun _ => ?_))
    refine c_trial (hS.tf fr (Or.inl rfl)) (fun IL1 f1 s1 => (kA ?_))
    refine zk24 ?_
    refine c_sitAs (zSt_24 t) (by decide) hH hfa (hC.tf (zfr_tr fr f1)) s1 hB (fun IL2 f2 _ _ _ => (kI ?_))
    cases e : ypas H (-1) (nI k) fa S
    · rw [e] at hQ
      show gX7_edge xs (d + 4) Q 13 [.ref 0, .int (nI c), .int fa, .int (nI k + (-1))] [] (zFx t, IL2)
      refine l_edge hH hC hS hB hfa hc k IL2 _ (by omega) (Int32.sub_eq_add_neg _ _).symm (zfr_tr fr (zfr_tr f1 f2)) hQ
    · have := hQ IL2 (zfr_tr fr (zfr_tr f1 f2))
      rw [e] at this
      exact this
theorem c_edge {x : Int32} (hH : yOK H) (hC : yCH t H IL) (hS : yCS 22 S IL) (hB : ySB H S) (hfa : fa = 0 ∨ fa = 1) (hQ : ∀ IL', zfr (ytf t) IL IL' → Q (zFx t, IL') (some (.int (yun H S x (yed (fun q => ypas H (-1) (nI q) fa S) 21))))) : zcall xs (d + 5) 110 (zFx t, IL) [.ref 0, .int x, .int fa] Q := by
  refine sX7_edge t _ _ IL (c_isUnread hH hC hS (fun h => kI (z0 ?_)) (fun c hc e hb h => kI (z1 ?_)))
  · have := hQ IL zfr_rf
    rw [h] at this
    exact this
  · subst e
    refine l_edge hH hC hS hB hfa hc 21 IL _ (by omega) (by decide) zfr_rf (fun IL' f => ?_)
    have := hQ IL' f
    rw [h] at this
    exact this
theorem c_over (hH : yOK H) (hC : yCH t H IL) (hS : yCS 22 S IL) (hB : ySB H S) (hQ : ∀ IL', zfr (ytf t) IL IL' → Q (zFx t, IL') (some (.int (yal H (-1) (fun _ => 0) (S 8) H.k 0 (ychg H S) 0)))) : zcall xs (d + 6) 113 (zFx t, IL) [.ref 0] Q := by
  refine sX7_over t IL (c_trial hS (fun IL1 f1 s1 => (kA ?_)))
  refine zk24 ?_
  refine c_handOver (zSt_24 t) (by decide) hH (hC.tf f1) s1 (fun IL2 f2 s2 => (kV ?_))
  refine c_sitAll (zSt_24 t) (by decide) hH (Or.inl rfl) (hC.tf (zfr_tr f1 (ytf_2 f2))) s2 (ySB_chg hH hB) (fun IL3 f3 => (kI ?_))
  have e8 : ychg H S 8 = S 8 := by unfold ychg; rw [if_neg (by decide), if_neg (by have := hH.n7; omega)]
  rw [e8]
  exact hQ IL3 (zfr_tr f1 (zfr_tr (ytf_2 f2) f3))
theorem c_law {x : Int32} (hH : yOK H) (hC : yCH t H IL) (hS : yCS 22 S IL) (hB : ySB H S) (hQ : ∀ IL', zfr (ytf t) IL IL' → Q (zFx t, IL') (some (.int (if x < 0 then -1 else if 20 < x then -1 else yal H x (fun _ => 0) (S 8) H.k 0 S 0)))) : zcall xs (d + 6) 125 (zFx t, IL) [.ref 0, .int x] Q := by
  refine sX7_law t x IL (zdec (fun z => ?_) (fun z => zdec (fun w => ?_) (fun w => ?_)))
  · have := hQ IL zfr_rf
    rw [if_pos z] at this
    exact this
  · have := hQ IL zfr_rf
    rw [if_neg z, if_pos w] at this
    exact this
  · refine c_trial hS (fun IL1 f1 s1 => (kA ?_))
    refine zk24 ?_
    refine c_sitAll (zSt_24 t) (by decide) hH (Or.inl rfl) (hC.tf f1) s1 hB (fun IL3 f3 => (kI ?_))
    have := hQ IL3 (zfr_tr f1 f3)
    rw [if_neg z, if_neg w] at this
    exact this
theorem l_lost {r : Int32} (hH : yOK H) (hfa : fa = 0 ∨ fa = 1) (hC : yCH t H IL0) (hr : IL0.1 22 2 = r) : ∀ (k i : Nat) (IL : zIL) (S : Nat → Int32), i + k = H.k → zfr (ytf t) IL0 IL → yCS 24 S IL → ySB H S → (∀ IL', zfr (ytf t) IL0 IL' → Q (zFx t, IL') (some (.int (ylo H fa r k i S)))) → gX7_lost xs (d + 5) Q 7 [.ref 0, .int fa, .int (nI i)] [] (zFx t, IL)
  | 0, i, IL, S, hi, fr, hS, hB, hQ => by
    have k6 := hH.k6
    exact sX7_lost_7 t _ _ IL (zd_f (hC.tf fr).cla (by omega) (by omega) (hQ IL fr))
  | k + 1, i, IL, S, hi, fr, hS, hB, hQ => by
    have k6 := hH.k6
    have zl := zH_le t
    have hCI := hC.tf fr
    unfold ylo at hQ
    have er : IL.1 22 2 = r := by rw [fr.1 22 (by unfold ytf; simp only [List.mem_cons, List.not_mem_nil, or_false]; omega), hr]
    refine sX7_lost_7 t _ _ IL (zd_t hCI.cla (by omega) (by omega) ?_)
    rw [er]
    refine c_has (by omega) (fun hb => kI (z0 ?_)) (fun hb => kI (z1 ?_))
    · rw [hb] at hQ
      show zcall xs (d + 5) 81 _ _ _
      refine c_sit (zSt_24 t) (by decide) hH hfa (by omega) hCI hS hB (fun IL2 f2 s2 _ _ => (kI ?_))
      cases e : ypas H (-1) (H.sh i) fa S
      · rw [e] at hQ
        exact hQ IL2 (zfr_tr fr f2)
      · rw [e] at hQ
        show gX7_lost xs (d + 5) Q 7 [.ref 0, .int fa, .int (nI i + 1)] [] (zFx t, IL2)
        rw [nI_1]
        exact l_lost hH hfa hC hr k (i + 1) IL2 _ (by omega) (zfr_tr fr f2) s2 (ySB_sit hH hB _ _ _ (by omega)) hQ
    · rw [hb] at hQ
      show gX7_lost xs (d + 5) Q 7 [.ref 0, .int fa, .int (nI i + 1)] [] (zFx t, IL)
      rw [nI_1]
      exact l_lost hH hfa hC hr k (i + 1) IL S (by omega) fr hS hB hQ
theorem c_lost (hH : yOK H) (hC : yCH t H IL) (hS : yCS 22 S IL) (hB : ySB H S) (hfa : fa = 0 ∨ fa = 1) (hQ : ∀ IL', zfr (ytf t) IL IL' → Q (zFx t, IL') (some (.int (ylo H fa (S 8) H.k 0 S)))) : zcall xs (d + 6) 105 (zFx t, IL) [.ref 0, .int fa] Q := by
  refine sX7_lost t _ IL (c_trial hS (fun IL1 f1 s1 => (kA ?_)))
  exact l_lost hH hfa (hC.tf f1) (hS.tf f1 (Or.inl rfl)).read H.k 0 IL1 S (by omega) zfr_rf s1 hB (fun IL' f => hQ IL' (zfr_tr f1 f))
theorem l_cbt {r x : Int32} (hH : yOK H) (hC : yCH t H IL0) (hr : IL0.1 22 2 = r) : ∀ (k i : Nat) (IL : zIL) (S : Nat → Int32) (a : Int32), i + k = H.k → zfr (ytf t) IL0 IL → yCS 24 S IL → ySB H S → (∀ IL', zfr (ytf t) IL0 IL' → Q (zFx t, IL') (some (.int (yal H (-1) (fun c => if bt x c then 1 else 0) r k i S a)))) → gX7_carriedByTones xs (d + 5) Q 9 [.ref 0, .int x, .int a, .int (nI i)] [] (zFx t, IL)
  | 0, i, IL, S, a, hi, fr, hS, hB, hQ => by
    have k6 := hH.k6
    exact sX7_carriedByTones_9 t _ _ _ IL (zd_f (hC.tf fr).cla (by omega) (by omega) (hQ IL fr))
  | k + 1, i, IL, S, a, hi, fr, hS, hB, hQ => by
    have k6 := hH.k6
    have zl := zH_le t
    have hCI := hC.tf fr
    unfold yal at hQ
    have er : IL.1 22 2 = r := by rw [fr.1 22 (by unfold ytf; simp only [List.mem_cons, List.not_mem_nil, or_false]; omega), hr]
    refine sX7_carriedByTones_9 t _ _ _ IL (zd_t hCI.cla (by omega) (by omega) ?_)
    rw [er]
    refine c_has (by omega) (fun hb => kI (z0 ?_)) (fun hb => kI (z1 ?_))
    · rw [hb] at hQ
      have body : ∀ fa : Int32, fa = (if bt x i then 1 else 0) → (fa = 0 ∨ fa = 1) → zcall xs (d + 5) 81 (zFx t, IL) [.ref 24, .ref (zH t), .int (nI i), .int fa] (zkI (zFx t) fun IL3 y3 => zif2 (decide (y3 = 0)) (gX7_carriedByTones xs (d + 5) Q 9 [.ref 0, .int x, .int a, .int (nI i + 1)] [] (zFx t, IL3)) (gX7_carriedByTones xs (d + 5) Q 9 [.ref 0, .int x, .int (a + 1), .int (nI i + 1)] [] (zFx t, IL3))) := by
        intro fa hf hf2
        replace hQ : ∀ IL', zfr (ytf t) IL0 IL' → Q (zFx t, IL') (some (.int (yal H (-1) (fun c => if bt x c then 1 else 0) r k (i + 1) (ysit H (-1) (H.sh i) fa i S) (if ypas H (-1) (H.sh i) fa S then a + 1 else a)))) := by rw [hf]; exact hQ
        refine c_sit (zSt_24 t) (by decide) hH hf2 (by omega) hCI hS hB (fun IL2 f2 s2 _ _ => (kI ?_))
        rw [nI_1]
        cases e : ypas H (-1) (H.sh i) fa S
        · rw [e] at hQ
          exact (show gX7_carriedByTones xs (d + 5) Q 9 [.ref 0, .int x, .int a, .int (nI (i + 1))] [] (zFx t, IL2) from l_cbt hH hC hr k (i + 1) IL2 _ a (by omega) (zfr_tr fr f2) s2 (ySB_sit hH hB _ _ _ (by omega)) hQ)
        · rw [e] at hQ
          exact (show gX7_carriedByTones xs (d + 5) Q 9 [.ref 0, .int x, .int (a + 1), .int (nI (i + 1))] [] (zFx t, IL2) from l_cbt hH hC hr k (i + 1) IL2 _ (a + 1) (by omega) (zfr_tr fr f2) s2 (ySB_sit hH hB _ _ _ (by omega)) hQ)
      show zcall xs (d + 5) 151 _ _ _
      exact c_has (by omega) (fun hx => (kI (body 0 (by rw [hx]; rfl) (Or.inl rfl)))) (fun hx => (kI (body 1 (by rw [hx]; rfl) (Or.inr rfl))))
    · rw [hb] at hQ
      show gX7_carriedByTones xs (d + 5) Q 9 [.ref 0, .int x, .int a, .int (nI i + 1)] [] (zFx t, IL)
      rw [nI_1]
      exact l_cbt hH hC hr k (i + 1) IL S a (by omega) fr hS hB hQ
theorem c_cbt {x : Int32} (hH : yOK H) (hC : yCH t H IL) (hS : yCS 22 S IL) (hB : ySB H S) (hQ : ∀ IL', zfr (ytf t) IL IL' → Q (zFx t, IL') (some (.int (yal H (-1) (fun c => if bt x c then 1 else 0) (S 8) H.k 0 S 0)))) : zcall xs (d + 6) 146 (zFx t, IL) [.ref 0, .int x] Q := by
  refine sX7_carriedByTones t _ IL (c_trial hS (fun IL1 f1 s1 => (kA ?_)))
  exact l_cbt hH (hC.tf f1) (hS.tf f1 (Or.inl rfl)).read H.k 0 IL1 S 0 (by omega) zfr_rf s1 hB (fun IL' f => hQ IL' (zfr_tr f1 f))
end THINK
