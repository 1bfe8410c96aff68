/-! readings in thought: the model's side -/
theorem ygr_max (a b : Int32) : ygr a b = zmax a b := by
  apply Int32.toInt_inj.mp
  rw [ygr_i, zmax_i]
theorem y_01 {w : Int32} (h0 : ¬ w < 0) (h1 : ¬ 1 < w) : w = 0 ∨ w = 1 := by
  have a0 : ¬ w.toInt < (0 : Int32).toInt := fun q => h0 (Int32.lt_iff_toInt_lt.mpr q)
  have a1 : ¬ (1 : Int32).toInt < w.toInt := fun q => h1 (Int32.lt_iff_toInt_lt.mpr q)
  have b0 : (0 : Int32).toInt = 0 := by decide
  have b1 : (1 : Int32).toInt = 1 := by decide
  rw [b0] at a0
  rw [b1] at a1
  by_cases q : w.toInt = 0
  · exact Or.inl (Int32.toInt_inj.mp (by rw [q, b0]))
  · exact Or.inr (Int32.toInt_inj.mp (by rw [b1]; omega))
theorem y_n01 {w : Int32} (h : ¬ (¬ w < 0 ∧ ¬ 1 < w)) : ¬ w = 0 ∧ ¬ w = 1 := ⟨fun e => h (by rw [e]; exact ⟨by decide, by decide⟩), fun e => h (by rw [e]; exact ⟨by decide, by decide⟩)⟩
/-- a fold that does nothing any more -/
theorem yfo_id {α : Type} {f : Nat → α → α} : ∀ (k i : Nat) (a : α), (∀ j b, i ≤ j → j < i + k → f j b = b) → yfo f k i a = a
  | 0, _, _, _ => rfl
  | k + 1, i, a, h => by
    unfold yfo
    rw [h i a (by omega) (by omega)]
    exact yfo_id k (i + 1) a (fun j b h1 h2 => h j b (by omega) (by omega))
def ymay (k : Nat) (r : Int32) : Int32 := (((1 : Int32) <<< (nI k &&& 31)) - 1) &&& (r ^^^ (-1))
theorem y_may1 : ∀ k, k ≤ 6 → ∀ r, r < 2 ^ k → ∀ i, i < 2 ^ k → decide ((nI i) &&& (nI r) = 0) = decide ((nI i) &&& (ymay k (nI r) ^^^ (-1)) = 0) := by decide +kernel
theorem y_may2 : ∀ k, k ≤ 6 → ∀ r, r < 2 ^ k → ∀ i, i < 2 ^ k → ymay k (nI r) < nI i → ¬ (nI i) &&& (nI r) = 0 := by decide +kernel
theorem y_may3 : ∀ k, k ≤ 6 → ∀ r, r < 2 ^ k → ymay k (nI r) < nI (2 ^ k) := by decide +kernel
section MTHINK
variable {xs : List Int32} {d : Nat} {Q : zQ} {t : Bool} {IL IL0 : zIL} {H : yH} {fa : Int32} {S : Nat → Int32}
theorem c_mayRead {x : Int32} (hH : yOK H) (hM : yMH H IL) (hS : yMS 161 S IL) (h0 : (∀ v, yun H S x v = -1) → Q (zFx t, IL) (some (.int 0))) (h1 : ∀ c, c < H.k → x = nI c → bt (S 8) c = false → (∀ v, yun H S x v = v) → Q (zFx t, IL) (some (.int 1))) : zcall xs (d + 3) 223 (zFx t, IL) [.ref 145, .int x] Q := by
  have k6 := hH.k6
  refine sX8_mayRead t x IL (c_misClause hH hM (fun h => kI (z0 (h0 (fun v => yisM_n h)))) (fun c hc e h => kI (z1 ?_)))
  subst e
  refine c_isRead (by omega) (fun hb => kI (z0 (h1 c hc rfl ?_ (fun v => ?_)))) (fun hb => kI (z1 (h0 (fun v => ?_))))
  · rw [hS 8 (by decide)] at hb; exact hb
  · rw [hS 8 (by decide)] at hb
    unfold yun
    rw [yisM_y h, ycl (by omega), hb]
    rfl
  · rw [hS 8 (by decide)] at hb
    unfold yun
    rw [yisM_y h, ycl (by omega), hb]
    rfl
theorem c_tr01 {x : Int32} (hx : x = 0 ∨ x = 1) (h : Q (zFx t, IL) (some (.int x))) : zcall xs (d + 1) 184 (zFx t, IL) [.int x] Q := by
  rcases hx with rfl | rfl
  · exact c_truth0 h
  · exact c_truth1 h
theorem m_carries {x : Int32} (hH : yOK H) (hM : yMH H IL) (hS : yMS 161 S IL) (h27 : IL.1 145 27 = -1) (hB : ySB H S) (hfa : fa = 0 ∨ fa = 1) (hQ : ∀ IL', yfm ypw IL IL' → Q (zFx t, IL') (some (.int (yun H S x (if ypas H (-1) (H.sh x.toNatClampNeg) fa S then 1 else 0))))) : zcall xs (d + 6) 225 (zFx t, IL) [.ref 145, .int x, .int fa] Q := by
  have k6 := hH.k6
  refine sX8_carries t _ _ IL (c_mayRead hH hM hS (fun h => kI (z0 ?_)) (fun c hc e hb h => kI (z1 ?_)))
  · have := hQ IL yfm_rf
    rw [h] at this
    exact this
  · subst e
    refine zix_n (by omega) (by omega) (c_tr01 hfa (kI ?_))
    rw [ycl (by omega), hM.sh c hc]
    refine c_thinkRead hH hB hM (Or.inl rfl) h27 hS (fun IL2 f2 _ _ => kI (c_truth (kI ?_)))
    have := hQ IL2 f2
    rw [h, ycl (by omega)] at this
    exact this
theorem m_shots {x : Int32} (hH : yOK H) (hM : yMH H IL) (hS : yMS 161 S IL) (h27 : IL.1 145 27 = -1) (hB : ySB H S) (hfa : fa = 0 ∨ fa = 1) (hQ : ∀ IL', yfm ypw IL IL' → Q (zFx t, IL') (some (.int (yun H S x (yset (yoff H (-1) (H.sh x.toNatClampNeg) fa S) H.n))))) : zcall xs (d + 6) 226 (zFx t, IL) [.ref 145, .int x, .int fa] Q := by
  have k6 := hH.k6
  refine sX8_shots t _ _ IL (c_mayRead hH hM hS (fun h => kI (z0 ?_)) (fun c hc e hb h => kI (z1 ?_)))
  · have := hQ IL yfm_rf
    rw [h] at this
    exact this
  · subst e
    refine zix_n (by omega) (by omega) (c_tr01 hfa (kI ?_))
    rw [ycl (by omega), hM.sh c hc]
    refine c_thinkRead hH hB hM (Or.inl rfl) h27 hS (fun IL2 f2 e1 _ => kI ?_)
    have := hQ IL2 f2
    rw [h, ycl (by omega)] at this
    rw [e1]
    exact this
theorem m_backers {x : Int32} (hH : yOK H) (hM : yMH H IL) (hS : yMS 161 S IL) (h27 : IL.1 145 27 = -1) (hB : ySB H S) (hfa : fa = 0 ∨ fa = 1) (hQ : ∀ IL', yfm ypw IL IL' → Q (zFx t, IL') (some (.int (yun H S x (yset (yfor H (-1) (H.sh x.toNatClampNeg) fa S) H.n))))) : zcall xs (d + 6) 227 (zFx t, IL) [.ref 145, .int x, .int fa] Q := by
  have k6 := hH.k6
  refine sX8_backers t _ _ IL (c_mayRead hH hM hS (fun h => kI (z0 ?_)) (fun c hc e hb h => kI (z1 ?_)))
  · have := hQ IL yfm_rf
    rw [h] at this
    exact this
  · subst e
    refine zix_n (by omega) (by omega) (c_tr01 hfa (kI ?_))
    rw [ycl (by omega), hM.sh c hc]
    refine c_thinkRead hH hB hM (Or.inl rfl) h27 hS (fun IL2 f2 _ e1 => kI ?_)
    have := hQ IL2 f2
    rw [h, ycl (by omega)] at this
    rw [e1]
    exact this
theorem yMS.pw {A B : zIL} (h : yMS 161 S A) (f : yfm ypw A B) : yMS 161 S B := fun j hj => by rw [f.1 161 j rfl]; exact h j hj
theorem l_medge {x1 : Int32} (hH : yOK H) (hM : yMH H IL0) (hS : yMS 161 S IL0) (h27 : IL0.1 145 27 = -1) (hB : ySB H S) (hfa : fa = 0 ∨ fa = 1) : ∀ (k i : Nat) (IL : zIL), i + k = 21 → yfm ypw IL0 IL → (∀ IL', yfm ypw IL0 IL' → Q (zFx t, IL') (some (.int (yed (fun q => ypas H (-1) (nI q) fa S) 21)))) → gX8_edge xs (d + 5) Q 15 [.ref 145, .int x1, .int fa, .int (yed (fun q => ypas H (-1) (nI q) fa S) i), .int (nI i)] [] (zFx t, IL)
  | 0, i, IL, hi, fr, hQ => by
    have e : i = 21 := by omega
    subst e
    exact sX8_edge_15 t _ _ _ _ IL (zdec (fun _ => hQ IL fr) (fun z => absurd (by decide) z))
  | k + 1, i, IL, hi, fr, hQ => by
    have ih : ∀ IL', yfm ypw IL0 IL' → _ := fun IL' f => l_medge (x1 := x1) hH hM hS h27 hB hfa k (i + 1) IL' (by omega) f hQ
    refine sX8_edge_15 t _ _ _ _ IL (zdec (fun z => absurd z (nI_nlt (a := 20) (by omega) (by omega))) (fun _ => c_tr01 hfa (kI ?_)))
    refine c_thinkRead hH hB (hM.pw fr) (Or.inl rfl) (by rw [fr.1 145 27 rfl]; exact h27) (hS.pw fr) (fun IL2 f2 _ _ => kI (zbb (fun e => ?_) (fun e => ?_)))
    · have := ih IL2 (yfm_tr fr f2)
      rw [yed, if_neg (by rw [e]; decide)] at this
      rw [nI_1]
      exact this
    · have := ih IL2 (yfm_tr fr f2)
      rw [yed, if_pos e] at this
      rw [nI_1]
      exact this
theorem m_edge {x : Int32} (hH : yOK H) (hM : yMH H IL) (hS : yMS 161 S IL) (h27 : IL.1 145 27 = -1) (hB : ySB H S) (hfa : fa = 0 ∨ fa = 1) (hQ : ∀ IL', yfm ypw IL IL' → Q (zFx t, IL') (some (.int (yun H S x (yed (fun q => ypas H (-1) (nI q) fa S) 21))))) : zcall xs (d + 6) 248 (zFx t, IL) [.ref 145, .int x, .int fa] Q := by
  refine sX8_edge t _ _ IL (c_mayRead hH hM hS (fun h => kI (z0 ?_)) (fun c hc e hb h => kI (z1 ?_)))
  · have := hQ IL yfm_rf
    rw [h] at this
    exact this
  · refine l_medge hH hM hS h27 hB hfa 21 0 IL (by omega) yfm_rf (fun IL' f => ?_)
    have := hQ IL' f
    rw [h] at this
    exact this
theorem yfm_fill {A B : zIL} (f : zfr [162] A B) : yfm ypw A B := yfm_zfr f (fun c hc j => by rw [List.mem_singleton.mp hc]; rfl)
theorem y_h27 {A B : zIL} {mo : Int32} (h : A.1 145 27 = mo) (f : yfm ypw A B) : B.1 145 27 = mo := by rw [f.1 145 27 rfl]; exact h
/-- what thinking with a change leaves -/
def ypx (c j : Nat) : Bool := ypw c j || c == 164 || (c == 145 && j == 27)
theorem m_over (hH : yOK H) (hM : yMH H IL) (hS : yMS 161 S IL) (h27 : IL.1 145 27 = -1) (hB : ySB H S) (hQ : ∀ IL', yfm yms IL IL' → IL'.1 145 27 = -1 → Q (zFx t, IL') (some (.int (yal H (-1) (fun _ => 0) (S 8) H.k 0 (ychg H S) 0)))) : zcall xs (d + 7) 254 (zFx t, IL) [.ref 145] Q := by
  have n7 := hH.n7
  have k6 := hH.k6
  refine sX8_over t IL (c_fill hS (fun IL1 f1 s1 => kV ?_))
  have g1 := yfm_fill f1
  refine c_changes hH (hM.pw g1) s1 (fun IL2 f2 s2 => kV ?_)
  have g2 : yfm yms IL1 IL2 := yfm_zfr f2 (fun c hc j => by
    simp only [List.mem_cons, List.not_mem_nil, or_false] at hc
    rcases hc with rfl | rfl <;> rfl)
  have e27 : IL2.1 145 27 = -1 := by rw [f2.1 145 (by decide), f1.1 145 (by decide)]; exact h27
  have e161 : IL2.1 161 8 = S 8 := by rw [f2.1 161 (by decide), f1.1 161 (by decide)]; exact hS 8 (by decide)
  refine c_carriedBy (r := S 8) (f := fun _ => 0) hH (ySB_chg hH hB) ((hM.pw g1).hf f2) (Or.inl rfl) e27 e161 (fun j hj => ?_) s2 (fun IL3 f3 => kI (hQ IL3 (yfm_tr (yfm_pw g1) (yfm_tr g2 (yfm_pw f3))) (y_h27 e27 f3)))
  rw [zb_and1 0 j (by omega), b_0]
  rfl
theorem m_law {x : Int32} (hH : yOK H) (hM : yMH H IL) (hS : yMS 161 S IL) (h27 : IL.1 145 27 = -1) (hB : ySB H S) (hQ : ∀ IL', yfm yms IL IL' → IL'.1 145 27 = -1 → Q (zFx t, IL') (some (.int (if x < 0 then -1 else if 20 < x then -1 else yal H x (fun _ => 0) (S 8) H.k 0 S 0)))) : zcall xs (d + 7) 262 (zFx t, IL) [.ref 145, .int x] Q := by
  have k6 := hH.k6
  refine sX8_law t x IL (c_isIn (fun z => kI (z0 ?_)) (fun z w => kI (z1 ?_)))
  · have := hQ IL yfm_rf h27
    have e : (if x < 0 then -1 else if 20 < x then -1 else yal H x (fun _ => 0) (S 8) H.k 0 S 0) = (-1 : Int32) := by
      by_cases a : x < 0
      · rw [if_pos a]
      · rw [if_neg a, if_pos (Decidable.byContradiction (fun b => z ⟨a, b⟩))]
    rw [e] at this
    exact this
  · have g0 : yfm yms IL (zwi IL 145 27 x) := yfm_wi rfl
    have s0 : yMS 161 S (zwi IL 145 27 x) := fun j hj => by rw [zwi_ne (by decide)]; exact hS j hj
    refine c_fill s0 (fun IL1 f1 s1 => kV ?_)
    have g1 := yfm_fill f1
    have m1 : yMH H IL1 := (hM.ms g0).pw g1
    have e27 : IL1.1 145 27 = x := by rw [f1.1 145 (by decide), zwi_at, if_pos rfl]
    have e161 : IL1.1 161 8 = S 8 := by rw [f1.1 161 (by decide)]; exact s0 8 (by decide)
    refine c_carriedBy (r := S 8) (f := fun _ => 0) hH hB m1 (Or.inr z) e27 e161 (fun j hj => ?_) s1 (fun IL3 f3 => kI ?_)
    · rw [zb_and1 0 j (by omega), b_0]
      rfl
    · have := hQ (zwi IL3 145 27 (-1)) (yfm_tr g0 (yfm_tr (yfm_pw g1) (yfm_tr (yfm_pw f3) (yfm_wi rfl)))) (by rw [zwi_at, if_pos rfl])
      rw [if_neg z, if_neg w] at this
      exact this
theorem l_mlost {r : Int32} (hH : yOK H) (hfa : fa = 0 ∨ fa = 1) (hM : yMH H IL0) (h27 : IL0.1 145 27 = -1) (hr : IL0.1 161 8 = r) : ∀ (k i : Nat) (IL : zIL) (S : Nat → Int32), i + k = H.k → yfm ypw IL0 IL → yMS 162 S IL → ySB H S → (∀ IL', yfm ypw IL0 IL' → Q (zFx t, IL') (some (.int (ylo H fa r k i S)))) → gX8_lost xs (d + 5) Q 6 [.ref 145, .int fa, .int (nI i)] [] (zFx t, IL)
  | 0, i, IL, S, hi, fr, hS, hB, hQ => by
    have k6 := hH.k6
    exact sX8_lost_6 t _ _ IL (zd_f (hM.pw fr).cla (by omega) (by omega) (hQ IL fr))
  | k + 1, i, IL, S, hi, fr, hS, hB, hQ => by
    have k6 := hH.k6
    have hMI := hM.pw fr
    unfold ylo at hQ
    have er : IL.1 161 8 = r := by rw [fr.1 161 8 rfl, hr]
    refine sX8_lost_6 t _ _ IL (zd_t hMI.cla (by omega) (by omega) (c_isRead (by omega) (fun hb => kI (z0 (c_tr01 hfa (kI ?_)))) (fun hb => kI (z1 ?_))))
    · rw [er] at hb
      rw [hb] at hQ
      refine c_readOne0 hH hB hMI (Or.inl rfl) (y_h27 h27 fr) (by omega) hS (fun IL2 f2 s2 => kI (zbb (fun e => ?_) (fun e => ?_)))
      · rw [e] at hQ
        exact hQ IL2 (yfm_tr fr f2)
      · rw [e] at hQ
        rw [nI_1]
        exact l_mlost hH hfa hM h27 hr k (i + 1) IL2 _ (by omega) (yfm_tr fr f2) s2 (ySB_sit hH hB _ _ _ (by omega)) hQ
    · rw [er] at hb
      rw [hb] at hQ
      rw [nI_1]
      exact l_mlost hH hfa hM h27 hr k (i + 1) IL S (by omega) fr hS hB hQ
theorem m_lost (hH : yOK H) (hM : yMH H IL) (hS : yMS 161 S IL) (h27 : IL.1 145 27 = -1) (hB : ySB H S) (hfa : fa = 0 ∨ fa = 1) (hQ : ∀ IL', yfm ypw IL IL' → Q (zFx t, IL') (some (.int (ylo H fa (S 8) H.k 0 S)))) : zcall xs (d + 6) 235 (zFx t, IL) [.ref 145, .int fa] Q := by
  refine sX8_lost t _ IL (c_fill hS (fun IL1 f1 s1 => kV ?_))
  have g1 := yfm_fill f1
  exact l_mlost hH hfa (hM.pw g1) (y_h27 h27 g1) (hS.pw g1 8 (by decide)) H.k 0 IL1 S (by omega) yfm_rf s1 hB (fun IL' f => hQ IL' (yfm_tr g1 f))
theorem l_mwill {r w : Int32} {m n : Nat} (hH : yOK H) (hM : yMH H IL0) (h27 : IL0.1 145 27 = -1) (hr : IL0.1 161 8 = r) (hm : m < H.n) (hn : n ≤ 6) : ∀ (k c l y : Nat) (IL : zIL) (S : Nat → Int32), c + k = H.k → y + l = n → yfm ypw IL0 IL → yMS 162 S IL → ySB H S → (∀ IL', yfm ypw IL0 IL' → Q (zFx t, IL') (some (.int (ywl H (decide (w = 1)) r k c l S m)))) → gX8_will xs (d + 5) Q 39 [.ref 145, .int (nI m), .int (nI n), .int w, .int (nI y), .int (nI c)] [] (zFx t, IL)
  | 0, c, l, y, IL, S, hi, hl, fr, hS, hB, hQ => by
    have k6 := hH.k6
    have n7 := hH.n7
    refine sX8_will_39 t _ _ _ _ _ IL (zd_f (hM.pw fr).cla (by omega) (by omega) (zix_n (by omega) (by omega) ?_))
    rw [ycl (by omega), hS m (by omega)]
    have := hQ IL fr
    unfold ywl at this
    exact this
  | k + 1, c, 0, y, IL, S, hi, hl, fr, hS, hB, hQ => by
    have k6 := hH.k6
    have n7 := hH.n7
    have hQ' : ∀ IL', yfm ypw IL0 IL' → Q (zFx t, IL') (some (.int (ywl H (decide (w = 1)) r k (c + 1) 0 S m))) := by
      unfold ywl at hQ
      cases k
      · unfold ywl; exact hQ
      · unfold ywl; exact hQ
    have ih := l_mwill (w := w) hH hM h27 hr hm hn k (c + 1) 0 y IL S (by omega) hl fr hS hB hQ'
    have e : y = n := by omega
    subst e
    refine sX8_will_39 t _ _ _ _ _ IL (zd_t (hM.pw fr).cla (by omega) (by omega) (c_isRead (by omega) (fun hb => kI (z0 (zdec (fun _ => ?_) (fun z => absurd rfl z)))) (fun hb => kI (z1 ?_))))
    · rw [nI_1]; exact ih
    · rw [nI_1]; exact ih
  | k + 1, c, l + 1, y, IL, S, hi, hl, fr, hS, hB, hQ => by
    have k6 := hH.k6
    have n7 := hH.n7
    have hMI := hM.pw fr
    unfold ywl at hQ
    have er : IL.1 161 8 = r := by rw [fr.1 161 8 rfl, hr]
    refine sX8_will_39 t _ _ _ _ _ IL (zd_t hMI.cla (by omega) (by omega) (c_isRead (by omega) (fun hb => kI (z0 (zdec (fun z => absurd ((nI_eq (by omega) (by omega)).mp z) (by omega)) (fun _ => ?_)))) (fun hb => kI (z1 ?_))))
    · rw [er] at hb
      rw [hb] at hQ
      have b2 := ySB_sit hH hB (-1) (H.sh c) 0 (c := c) (by omega)
      refine zdec (fun z => ?_) (fun z => ?_)
      · rw [decide_eq_true z] at hQ
        refine c_readOne1 hH hB hMI (Or.inl rfl) (y_h27 h27 fr) (by omega) hS (fun IL2 f2 s2 => kI ?_)
        rw [nI_1, nI_1]
        exact l_mwill hH hM h27 hr hm hn k (c + 1) l (y + 1) IL2 _ (by omega) (by omega) (yfm_tr fr f2) s2 (ySB_pun hH b2) (by rw [decide_eq_true z]; exact hQ)
      · rw [decide_eq_false z] at hQ
        refine c_readOne0 hH hB hMI (Or.inl rfl) (y_h27 h27 fr) (by omega) hS (fun IL2 f2 s2 => kI ?_)
        rw [nI_1, nI_1]
        exact l_mwill hH hM h27 hr hm hn k (c + 1) l (y + 1) IL2 _ (by omega) (by omega) (yfm_tr fr f2) s2 b2 (by rw [decide_eq_false z]; exact hQ)
    · rw [er] at hb
      rw [hb] at hQ
      rw [nI_1]
      exact l_mwill hH hM h27 hr hm hn k (c + 1) (l + 1) y IL S (by omega) hl fr hS hB hQ
theorem m_will {x n w : Int32} (hH : yOK H) (hM : yMH H IL) (hS : yMS 161 S IL) (h27 : IL.1 145 27 = -1) (hB : ySB H S) (hQ : ∀ IL', yfm ypw IL IL' → Q (zFx t, IL') (some (.int (r_will H S x n w)))) : zcall xs (d + 6) 228 (zFx t, IL) [.ref 145, .int x, .int n, .int w] Q := by
  have n7 := hH.n7
  unfold r_will ymb at hQ
  have hq := hQ IL yfm_rf
  refine sX8_will t _ _ _ IL (c_misMember hH hM (fun h => kI (z0 ?_)) (fun m hm e h => kI (z1 ?_)))
  · rw [yisM_n h] at hq
    exact hq
  · rw [yisM_y h] at hQ hq
    subst e
    refine c_isIn (fun z => kI (z0 ?_)) (fun z z2 => kI (z1 ?_))
    · by_cases a : n < 0
      · rw [if_pos a] at hq; exact hq
      · rw [if_neg a, if_pos (Decidable.byContradiction (fun b => z ⟨a, b⟩))] at hq
        exact hq
    rw [if_neg z, if_neg z2] at hq hQ
    refine c_isIn (fun z => kI (z0 ?_)) (fun z3 z4 => kI (z1 ?_))
    · by_cases a : w < 0
      · rw [if_pos a] at hq; exact hq
      · rw [if_neg a, if_pos (Decidable.byContradiction (fun b => z ⟨a, b⟩))] at hq
        exact hq
    rw [if_neg z3, if_neg z4] at hq hQ
    obtain ⟨l, hl, rfl⟩ := y_nat (n := 7) z (by
      have a1 : ¬ (6 : Int32).toInt < n.toInt := fun q => z2 (Int32.lt_iff_toInt_lt.mpr q)
      have a2 : (6 : Int32).toInt = 6 := by decide
      have a3 : (nI 7).toInt = 7 := by decide
      rw [Int32.lt_iff_toInt_lt, a3]
      omega) (by decide)
    refine c_fill hS (fun IL1 f1 s1 => kV ?_)
    have g1 := yfm_fill f1
    refine l_mwill hH (hM.pw g1) (y_h27 h27 g1) (hS.pw g1 8 (by decide)) hm (by omega) H.k 0 l 0 IL1 S (by omega) (by omega) yfm_rf s1 hB (fun IL' f => ?_)
    have := hQ IL' (yfm_tr g1 f)
    rw [ycl (by omega), ycl (by omega)] at this
    exact this
end MTHINK
