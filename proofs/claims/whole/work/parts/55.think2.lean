/-! will, tones, usher, swap: the class's side -/
def r_will (H : yH) (S : Nat → Int32) (x n w : Int32) : Int32 := ymb H.n x (if n < 0 then -1 else if 6 < n then -1 else if w < 0 then -1 else if 1 < w then -1 else ywl H (decide (w = 1)) (S 8) H.k 0 n.toNatClampNeg S x.toNatClampNeg)
def r_tones (H : yH) (S : Nat → Int32) (w : Int32) : Int32 := if w = 0 then (yfo (yton H S) (2 ^ H.k) 0 (-1, 0)).1 else if w = 1 then (yfo (yton H S) (2 ^ H.k) 0 (-1, 0)).2 else -1
def r_usher (H : yH) (S : Nat → Int32) (fa w : Int32) : Int32 := if w = 0 then (yfo (yus H fa S) H.n 0 (-1, -1)).2 else if w = 1 then (yfo (yus H fa S) H.n 0 (-1, -1)).1 else -1
def y_swp (p : Int32 × Int32 × Int32) (w : Int32) : Int32 := if p.2.1 = -1 then -1 else if w = 0 then p.2.1 else if w = 1 then p.2.2 else if w = 2 then p.1 else -1
def r_swap (H : yH) (S : Nat → Int32) (fa w : Int32) : Int32 := y_swp (yfo (ysw H fa S) H.n 0 (yal H (-1) (fun _ => fa) (S 8) H.k 0 S 0, -1, -1)) w
/-- an answer for two who are OUT -/
def ytw (H : yH) (S : Nat → Int32) (x y v : Int32) : Int32 := if x = y then -1 else if x < 0 then -1 else if x < nI H.n then (if bt (S 7) x.toNatClampNeg then (if y < 0 then -1 else if y < nI H.n then (if bt (S 7) y.toNatClampNeg then v else -1) else -1) else -1) else -1
theorem ytw_y {H : yH} {S : Nat → Int32} {a b : Nat} (hn : H.n ≤ 7) (ha : a < H.n) (hb : b < H.n) (ne : a ≠ b) (oa : bt (S 7) a = true) (ob : bt (S 7) b = true) (v : Int32) : ytw H S (nI a) (nI b) v = v := by
  unfold ytw
  rw [if_neg (fun e => ne ((nI_eq (by omega) (by omega)).mp e)), if_neg (nI_pos (by omega)), if_pos (nI_lt ha (by omega)), ycl (by omega), if_pos oa, if_neg (nI_pos (by omega)), if_pos (nI_lt hb (by omega)), ycl (by omega), if_pos ob]
theorem ytw_n {H : yH} {S : Nat → Int32} {a b : Nat} (hn : H.n ≤ 7) (ha : a < H.n) (hb : b < H.n) (ne : a ≠ b) (h : ∀ v, ytw H S (nI a) (nI b) v = -1) : (bt (S 7) a && bt (S 7) b) = false := by
  cases oa : bt (S 7) a
  · rfl
  · cases ob : bt (S 7) b
    · rfl
    · have := h 0
      rw [ytw_y hn ha hb ne oa ob] at this
      exact absurd this (by decide)
section THINK2
variable {xs : List Int32} {d : Nat} {Q : zQ} {t : Bool} {IL IL0 : zIL} {H : yH} {fa : Int32} {S : Nat → Int32}
theorem c_isOut {x : Int32} (hH : yOK H) (hC : yCH t H IL) (hS : yCS 22 S IL) (h0 : (∀ v, (if x < 0 then -1 else if x < nI H.n then (if bt (S 7) x.toNatClampNeg then v else -1) else -1) = (-1 : Int32)) → Q (zFx t, IL) (some (.int 0))) (h1 : ∀ m, m < H.n → x = nI m → bt (S 7) m = true → Q (zFx t, IL) (some (.int 1))) : zcall xs (d + 2) 139 (zFx t, IL) [.ref 0, .int x] Q := by
  have n7 := hH.n7
  refine sX7_isOut t x IL (c_isMember hH hC (fun h => kI (z0 (h0 (fun v => yisM_n h)))) (fun m hm e h => kI (z1 ?_)))
  subst e
  rw [hS.out]
  refine c_has (by omega) (fun hb => kI (z0 (h0 (fun v => ?_)))) (fun hb => kI (z1 (h1 m hm rfl hb)))
  rw [yisM_y h, ycl (by omega), hb]
  rfl
theorem c_areTwo {x y : Int32} (hH : yOK H) (hC : yCH t H IL) (hS : yCS 22 S IL) (h0 : (∀ v, ytw H S x y v = -1) → Q (zFx t, IL) (some (.int 0))) (h1 : ∀ a b, a < H.n → b < H.n → x = nI a → y = nI b → a ≠ b → bt (S 7) a = true → bt (S 7) b = true → Q (zFx t, IL) (some (.int 1))) : zcall xs (d + 3) 140 (zFx t, IL) [.ref 0, .int x, .int y] Q := by
  have n7 := hH.n7
  refine sX7_areTwoOut t x y IL (zdec (fun z => h0 (fun v => by unfold ytw; rw [if_pos z])) (fun z => ?_))
  refine c_isOut hH hC hS (fun h => kI (z0 (h0 (fun v => by unfold ytw; rw [if_neg z]; exact h _)))) (fun a ha ea oa => kI (z1 ?_))
  refine c_isOut hH hC hS (fun h => kI (z0 (h0 (fun v => ?_)))) (fun b hb eb ob => kI (z1 (h1 a b ha hb ea eb (fun e => z (by rw [ea, eb, e])) oa ob)))
  unfold ytw
  rw [if_neg z]
  subst ea
  rw [if_neg (nI_pos (by omega)), if_pos (nI_lt ha (by omega)), ycl (by omega), if_pos oa]
  exact h v
theorem l_will {r w x2 : Int32} {m : Nat} (hH : yOK H) (hC : yCH t H IL0) (hr : IL0.1 22 2 = r) (hm : m < H.n) : ∀ (k c l : Nat) (IL : zIL) (S : Nat → Int32), c + k = H.k → l ≤ 6 → zfr (ytf t) IL0 IL → yCS 24 S IL → ySB H S → (∀ IL', zfr (ytf t) IL0 IL' → Q (zFx t, IL') (some (.int (ywl H (decide (w = 1)) r k c l S m)))) → gX7_will xs (d + 5) Q 40 [.ref 0, .int (nI m), .int x2, .int w, .int (nI l), .int (nI c)] [] (zFx t, IL)
  | 0, c, l, IL, S, hi, hl, fr, hS, hB, hQ => by
    have k6 := hH.k6
    have n7 := hH.n7
    refine sX7_will_40 t _ _ _ _ _ IL (zd_f (hC.tf fr).cla (by omega) (by omega) (zix_n (by omega) (by omega) ?_))
    rw [ycl (by omega), hS.no m (by omega)]
    have := hQ IL fr
    unfold ywl at this
    exact this
  | k + 1, c, 0, IL, S, hi, hl, fr, hS, hB, hQ => by
    have k6 := hH.k6
    have n7 := hH.n7
    refine sX7_will_40 t _ _ _ _ _ IL (zd_t (hC.tf fr).cla (by omega) (by omega) (zdec (fun z => absurd z (by decide)) (fun _ => zix_n (by omega) (by omega) ?_)))
    rw [ycl (by omega), hS.no m (by omega)]
    have := hQ IL fr
    unfold ywl at this
    exact this
  | k + 1, c, l + 1, IL, S, hi, hl, fr, hS, hB, hQ => by
    have k6 := hH.k6
    have n7 := hH.n7
    have zl := zH_le t
    have hCI := hC.tf fr
    unfold ywl at hQ
    have er : IL.1 22 2 = r := by rw [fr.1 22 (by unfold ytf; simp only [List.mem_cons, List.not_mem_nil, or_false]; omega), hr]
    have em : nI (l + 1) + (-1) = nI l := pk_m1 l
    refine sX7_will_40 t _ _ _ _ _ IL (zd_t hCI.cla (by omega) (by omega) (zdec (fun _ => ?_) (fun z => absurd (nI_lt (a := 0) (by omega) (by omega)) z)))
    rw [er]
    refine c_has (by omega) (fun hb => kI (z0 ?_)) (fun hb => kI (z1 ?_))
    · rw [hb] at hQ
      refine c_sit (zSt_24 t) (by decide) hH (Or.inl rfl) (by omega) hCI hS hB (fun IL2 f2 s2 _ _ => kI ?_)
      have b2 := ySB_sit hH hB (-1) (H.sh c) 0 (c := c) (by omega)
      refine zdec (fun z => ?_) (fun z => ?_)
      · rw [decide_eq_true z] at hQ
        refine c_drawPun (zSt_24 t) (by decide) hH (hC.tf (zfr_tr fr f2)) s2 (fun IL3 f3 s3 => kV (sX7_will_106 t _ _ _ _ _ IL3 ?_))
        rw [em, nI_1]
        exact l_will hH hC hr hm k (c + 1) l IL3 _ (by omega) (by omega) (zfr_tr fr (zfr_tr f2 (ytf_2 f3))) s3 (ySB_pun hH b2) (by rw [decide_eq_true z]; exact hQ)
      · rw [decide_eq_false z] at hQ
        refine sX7_will_106 t _ _ _ _ _ IL2 ?_
        rw [em, nI_1]
        exact l_will hH hC hr hm k (c + 1) l IL2 _ (by omega) (by omega) (zfr_tr fr f2) s2 b2 (by rw [decide_eq_false z]; exact hQ)
    · rw [hb] at hQ
      refine sX7_will_106 t _ _ _ _ _ IL ?_
      rw [nI_1]
      exact l_will hH hC hr hm k (c + 1) (l + 1) IL S (by omega) hl fr hS hB hQ
theorem c_will {x n w : Int32} (hH : yOK H) (hC : yCH t H IL) (hS : yCS 22 S IL) (hB : ySB H S) (hQ : ∀ IL', zfr (ytf t) IL IL' → Q (zFx t, IL') (some (.int (r_will H S x n w)))) : zcall xs (d + 6) 102 (zFx t, IL) [.ref 0, .int x, .int n, .int w] Q := by
  have n7 := hH.n7
  unfold r_will ymb at hQ
  have hq := hQ IL zfr_rf
  refine sX7_will t _ _ _ IL (c_isMember hH hC (fun h => kI (z0 ?_)) (fun m hm e h => kI (z1 ?_)))
  · rw [yisM_n h] at hq
    exact hq
  · rw [yisM_y h] at hQ hq
    subst e
    refine zdec (fun z => ?_) (fun z => ?_)
    · rw [if_pos z] at hq; exact hq
    rw [if_neg z] at hq hQ
    refine zdec (fun z2 => ?_) (fun z2 => ?_)
    · rw [if_pos z2] at hq; exact hq
    rw [if_neg z2] at hq hQ
    refine zdec (fun z3 => ?_) (fun z3 => ?_)
    · rw [if_pos z3] at hq; exact hq
    rw [if_neg z3] at hq hQ
    refine zdec (fun z4 => ?_) (fun z4 => ?_)
    · rw [if_pos z4] at hq; exact hq
    rw [if_neg z4] at hq hQ
    obtain ⟨l, hl, rfl⟩ := y_nat (n := 7) z (by
      have a1 : ¬ (6 : Int32).toInt < n.toInt := fun q => z2 (Int32.lt_iff_toInt_lt.mpr q)
      have a2 : (6 : Int32).toInt = 6 := by decide
      have a3 : (nI 7).toInt = 7 := by decide
      rw [Int32.lt_iff_toInt_lt, a3]
      omega) (by decide)
    refine c_trial hS (fun IL1 f1 s1 => kA ?_)
    refine l_will hH (hC.tf f1) (hS.tf f1 (Or.inl rfl)).read hm H.k 0 l IL1 S (by omega) (by omega) zfr_rf s1 hB (fun IL' f => ?_)
    have := hQ IL' (zfr_tr f1 f)
    rw [ycl (by omega), ycl (by omega)] at this
    exact this
theorem l_tones {w : Int32} (hH : yOK H) (hB : ySB H S) (hC : yCH t H IL0) (hS : yCS 22 S IL0) (hw : w = 0 ∨ w = 1) : ∀ (k i : Nat) (IL : zIL) (p : Int32 × Int32) (w6 w7 : Value), i + k = 2 ^ H.k → zfr (ytf t) IL0 IL → (∀ IL', zfr (ytf t) IL0 IL' → Q (zFx t, IL') (some (.int (if w = 0 then (yfo (yton H S) k i p).1 else (yfo (yton H S) k i p).2)))) → gX7_tones xs (d + 6) Q 21 [.ref 0, .int w, .int p.1, .int (ymc p.2 7 0 0), .int p.2, .int (nI i), w6, w7] [] (zFx t, IL)
  | 0, i, IL, p, w6, w7, hi, fr, hQ => by
    have k6 := hH.k6
    have pw := y_pw7 (n := H.k) (by omega)
    have hq := hQ IL fr
    unfold yfo at hq
    refine sX7_tones_21 t _ _ _ _ _ _ _ IL (zd_f (by rw [(hC.tf fr).cla, y_pow _ (by omega)]) (by omega) (by omega) (zdec (fun z => ?_) (fun z => ?_)))
    · rw [if_pos z] at hq; exact hq
    · rw [if_neg z] at hq; exact hq
  | k + 1, i, IL, p, w6, w7, hi, fr, hQ => by
    have k6 := hH.k6
    have pw := y_pw7 (n := H.k) (by omega)
    have hCI := hC.tf fr
    have hSI := hS.tf fr (Or.inl rfl)
    unfold yfo at hQ
    have go : ∀ (p' : Int32 × Int32) (IL' : zIL) (w6 w7 : Value), zfr (ytf t) IL0 IL' → p' = yton H S i p → gX7_tones xs (d + 6) Q 21 [.ref 0, .int w, .int p'.1, .int (ymc p'.2 7 0 0), .int p'.2, .int (nI i + 1), w6, w7] [] (zFx t, IL') := fun p' IL' w6 w7 f e => by
      rw [nI_1]
      exact l_tones hH hB hC hS hw k (i + 1) IL' p' w6 w7 (by omega) f (by rw [e]; exact hQ)
    refine sX7_tones_21 t _ _ _ _ _ _ _ IL (zd_t (by rw [hCI.cla, y_pow _ (by omega)]) (by omega) (by omega) ?_)
    rw [hSI.read]
    refine zdec (fun z => c_cbt hH hCI hSI hB (fun IL1 f1 => kI (c_bitCount (kI ?_)))) (fun z => go p IL _ _ fr (by unfold yton; rw [if_neg z]))
    rw [y_bc_mc i (by omega)]
    have f := zfr_tr fr f1
    refine zdec (fun z1 => go (yal H (-1) (fun c => if bt (nI i) c then 1 else 0) (S 8) H.k 0 S 0, nI i) _ _ _ f (by unfold yton; rw [if_pos z, if_pos z1])) (fun z1 => zdec (fun z2 => zdec (fun z3 => go (yal H (-1) (fun c => if bt (nI i) c then 1 else 0) (S 8) H.k 0 S 0, nI i) _ _ _ f ?_) (fun z3 => go p _ _ _ f ?_)) (fun z2 => go p _ _ _ f ?_))
    · unfold yton; rw [if_pos z, if_neg z1, if_pos z2, if_pos z3]
    · unfold yton; rw [if_pos z, if_neg z1, if_pos z2, if_neg z3]
    · unfold yton; rw [if_pos z, if_neg z1, if_neg z2]
theorem c_tones {w : Int32} (hH : yOK H) (hC : yCH t H IL) (hS : yCS 22 S IL) (hB : ySB H S) (hQ : ∀ IL', zfr (ytf t) IL IL' → Q (zFx t, IL') (some (.int (r_tones H S w)))) : zcall xs (d + 7) 104 (zFx t, IL) [.ref 0, .int w] Q := by
  unfold r_tones at hQ
  refine sX7_tones t _ IL (zdec (fun z => ?_) (fun z => zdec (fun z2 => ?_) (fun z2 => ?_)))
  · exact l_tones hH hB hC hS (Or.inl z) (2 ^ H.k) 0 IL (-1, 0) _ _ (by omega) zfr_rf (fun IL' f => by
      have := hQ IL' f
      rw [if_pos z] at this
      rw [if_pos z]
      exact this)
  · exact l_tones hH hB hC hS (Or.inr z2) (2 ^ H.k) 0 IL (-1, 0) _ _ (by omega) zfr_rf (fun IL' f => by
      have := hQ IL' f
      rw [if_neg z, if_pos z2] at this
      rw [if_neg z]
      exact this)
  · have := hQ IL zfr_rf
    rw [if_neg z, if_neg z2] at this
    exact this
theorem l_usher {w : Int32} (hH : yOK H) (hB : ySB H S) (hfa : fa = 0 ∨ fa = 1) (hC : yCH t H IL0) (hS : yCS 22 S IL0) : ∀ (k i : Nat) (IL : zIL) (p : Int32 × Int32) (w6 : Value), i + k = H.n → zfr (ytf t) IL0 IL → (∀ IL', zfr (ytf t) IL0 IL' → Q (zFx t, IL') (some (.int (if w = 0 then (yfo (yus H fa S) k i p).2 else (yfo (yus H fa S) k i p).1)))) → gX7_usher xs (d + 5) Q 19 [.ref 0, .int fa, .int w, .int p.1, .int p.2, .int (nI i), w6] [] (zFx t, IL)
  | 0, i, IL, p, w6, hi, fr, hQ => by
    have n7 := hH.n7
    have hq := hQ IL fr
    unfold yfo at hq
    refine sX7_usher_19 t _ _ _ _ _ _ IL (zd_f (hC.tf fr).mem (by omega) (by omega) (zdec (fun z => ?_) (fun z => ?_)))
    · rw [if_pos z] at hq; exact hq
    · rw [if_neg z] at hq; exact hq
  | k + 1, i, IL, p, w6, hi, fr, hQ => by
    have n7 := hH.n7
    have hCI := hC.tf fr
    have hSI := hS.tf fr (Or.inl rfl)
    unfold yfo at hQ
    have go : ∀ (p' : Int32 × Int32) (IL' : zIL) (w6 : Value), zfr (ytf t) IL0 IL' → p' = yus H fa S i p → gX7_usher xs (d + 5) Q 19 [.ref 0, .int fa, .int w, .int p'.1, .int p'.2, .int (nI i + 1), w6] [] (zFx t, IL') := fun p' IL' w6 f e => by
      rw [nI_1]
      exact l_usher hH hB hfa hC hS k (i + 1) IL' p' w6 (by omega) f (by rw [e]; exact hQ)
    refine sX7_usher_19 t _ _ _ _ _ _ IL (zd_t hCI.mem (by omega) (by omega) ?_)
    rw [hSI.out]
    refine c_has (by omega) (fun hb => kI (z0 (go p IL _ fr (by unfold yus; rw [hb]; rfl)))) (fun hb => kI (z1 ?_))
    refine c_trial hSI (fun IL1 f1 s1 => kA (zix_n (by omega) (by omega) (c_max (kI (zix_n (by omega) (by omega) ?_)))))
    rw [ycl (by omega), s1.no i (by omega)]
    have f2 : zfr (ytf t) IL0 (zwi IL1 25 i (zmax 0 (S i - 1))) := zfr_tr fr (zfr_tr f1 ytf_w)
    have s2 : yCS 24 (yS' S i (zmax 0 (S i - 1))) (zwi IL1 25 i (zmax 0 (S i - 1))) := by
      have h7 : ∀ j, 7 ≤ j → yS' S i (zmax 0 (S i - 1)) j = S j := fun j hj => by unfold yS'; rw [if_neg (by omega)]
      unfold yCS
      refine ⟨fun j hj => ?_, ?_, ?_, ?_, ?_⟩
      · show (zwi IL1 25 i (zmax 0 (S i - 1))).1 25 j = _
        unfold yS'
        rw [zwi_at]
        by_cases e : j = i
        · rw [if_pos e, if_pos e]
        · rw [if_neg e, if_neg e]; exact s1.no j hj
      · rw [zwi_ne (by decide), h7 7 (by decide)]; exact s1.out
      · rw [zwi_ne (by decide), h7 8 (by decide)]; exact s1.read
      · rw [zwi_ne (by decide), h7 9 (by decide)]; exact s1.car
      · rw [zwi_ne (by decide), h7 10 (by decide)]; exact s1.seed
    have e8 : yS' S i (zmax 0 (S i - 1)) 8 = S 8 := by unfold yS'; rw [if_neg (by omega)]
    refine c_sitAll (zSt_24 t) (by decide) hH hfa (hC.tf f2) s2 (ySB_S' hB (by omega) (zmax_1 (hB.no i (by omega))) hb) (fun IL3 f3 => kI ?_)
    rw [e8]
    have f := zfr_tr f2 f3
    refine zdec (fun z => go (yal H (-1) (fun _ => fa) (S 8) H.k 0 (yS' S i (zmax 0 (S i - 1))) 0, nI i) IL3 _ f ?_) (fun z => go p IL3 _ f ?_)
    · unfold yus; rw [hb, if_pos rfl, if_pos z]
    · unfold yus; rw [hb, if_pos rfl, if_neg z]
theorem c_usher {w : Int32} (hH : yOK H) (hC : yCH t H IL) (hS : yCS 22 S IL) (hB : ySB H S) (hfa : fa = 0 ∨ fa = 1) (hQ : ∀ IL', zfr (ytf t) IL IL' → Q (zFx t, IL') (some (.int (r_usher H S fa w)))) : zcall xs (d + 6) 111 (zFx t, IL) [.ref 0, .int fa, .int w] Q := by
  unfold r_usher at hQ
  refine sX7_usher t _ _ IL (zdec (fun z => ?_) (fun z => zdec (fun z2 => ?_) (fun z2 => ?_)))
  · exact l_usher hH hB hfa hC hS H.n 0 IL (-1, -1) _ (by omega) zfr_rf (fun IL' f => by
      have := hQ IL' f
      rw [if_pos z] at this
      rw [if_pos z]
      exact this)
  · exact l_usher hH hB hfa hC hS H.n 0 IL (-1, -1) _ (by omega) zfr_rf (fun IL' f => by
      have := hQ IL' f
      rw [if_neg z, if_pos z2] at this
      rw [if_neg z]
      exact this)
  · have := hQ IL zfr_rf
    rw [if_neg z, if_neg z2] at this
    exact this
theorem l_swap41 {w : Int32} {a : Nat} (hH : yOK H) (hB : ySB H S) (hfa : fa = 0 ∨ fa = 1) (hC : yCH t H IL0) (hS : yCS 22 S IL0) (ha : a < H.n) : ∀ (k i : Nat) (IL : zIL) (p : Int32 × Int32 × Int32) (w8 : Value), i + k = H.n → a < i → zfr (ytf t) IL0 IL → (∀ IL' w7 w8, zfr (ytf t) IL0 IL' → gX7_swap xs (d + 5) Q 23 [.ref 0, .int fa, .int w, .int (yfo (ysw1 H fa S a) k i p).1, .int (yfo (ysw1 H fa S a) k i p).2.1, .int (yfo (ysw1 H fa S a) k i p).2.2, .int (nI (a + 1)), w7, w8] [] (zFx t, IL')) → gX7_swap xs (d + 5) Q 41 [.ref 0, .int fa, .int w, .int p.1, .int p.2.1, .int p.2.2, .int (nI a), .int (nI i), w8] [] (zFx t, IL)
  | 0, i, IL, p, w8, hi, hai, fr, hQ => by
    have n7 := hH.n7
    have hq := hQ IL (.int (nI i)) w8 fr
    unfold yfo at hq
    refine sX7_swap_41 t _ _ _ _ _ _ _ _ IL (zd_f (hC.tf fr).mem (by omega) (by omega) ?_)
    rw [nI_1]
    exact hq
  | k + 1, i, IL, p, w8, hi, hai, fr, hQ => by
    have n7 := hH.n7
    have hCI := hC.tf fr
    have hSI := hS.tf fr (Or.inl rfl)
    unfold yfo at hQ
    have go : ∀ (p' : Int32 × Int32 × Int32) (IL' : zIL) (w8 : Value), zfr (ytf t) IL0 IL' → p' = ysw1 H fa S a i p → gX7_swap xs (d + 5) Q 41 [.ref 0, .int fa, .int w, .int p'.1, .int p'.2.1, .int p'.2.2, .int (nI a), .int (nI i + 1), w8] [] (zFx t, IL') := fun p' IL' w8 f e => by
      rw [nI_1]
      exact l_swap41 hH hB hfa hC hS ha k (i + 1) IL' p' w8 (by omega) (by omega) f (by rw [e]; exact hQ)
    refine sX7_swap_41 t _ _ _ _ _ _ _ _ IL (zd_t hCI.mem (by omega) (by omega) ?_)
    refine c_areTwo hH hCI hSI (fun h => kI (z0 (go p IL _ fr ?_))) (fun a' b' ha' hb' e1 e2 ne oa ob => kI (z1 ?_))
    · unfold ysw1
      rw [ytw_n n7 ha (by omega) (by omega) h]
      rfl
    · have ea : a = a' := (nI_eq (by omega) (by omega)).mp e1
      have eb : i = b' := (nI_eq (by omega) (by omega)).mp e2
      subst ea
      subst eb
      refine c_trial hSI (fun IL1 f1 s1 => kA (zix_n (by omega) (by omega) (zix_n (by omega) (by omega) (zix_n (by omega) (by omega) (zix_n (by omega) (by omega) ?_)))))
      have hS1 := hSI.tf f1 (Or.inl rfl)
      rw [ycl (by omega), ycl (by omega), zwi_ne (show 23 ≠ 25 by decide), hS1.no a (by omega), hS1.no i (by omega)]
      have f2 : zfr (ytf t) IL0 (zwi (zwi IL1 25 a (S i)) 25 i (S a)) := zfr_tr fr (zfr_tr f1 (zfr_tr ytf_w ytf_w))
      have h7 : ∀ j, 7 ≤ j → yS' (yS' S a (S i)) i (S a) j = S j := fun j hj => by unfold yS'; rw [if_neg (by omega), if_neg (by omega)]
      have s2 : yCS 24 (yS' (yS' S a (S i)) i (S a)) (zwi (zwi IL1 25 a (S i)) 25 i (S a)) := by
        unfold yCS
        refine ⟨fun j hj => ?_, ?_, ?_, ?_, ?_⟩
        · show (zwi (zwi IL1 25 a (S i)) 25 i (S a)).1 25 j = _
          unfold yS'
          rw [zwi_at, zwi_at]
          by_cases e : j = i
          · rw [if_pos e, if_pos e]
          · rw [if_neg e, if_neg e]
            by_cases e' : j = a
            · rw [if_pos e', if_pos e']
            · rw [if_neg e', if_neg e']; exact s1.no j hj
        · rw [zwi_ne (by decide), zwi_ne (by decide), h7 7 (by decide)]; exact s1.out
        · rw [zwi_ne (by decide), zwi_ne (by decide), h7 8 (by decide)]; exact s1.read
        · rw [zwi_ne (by decide), zwi_ne (by decide), h7 9 (by decide)]; exact s1.car
        · rw [zwi_ne (by decide), zwi_ne (by decide), h7 10 (by decide)]; exact s1.seed
      have b1 : ySB H (yS' (yS' S a (S i)) i (S a)) := ySB_S' (ySB_S' hB (by omega) (hB.no i (by omega)) oa) (by omega) (hB.no a (by omega)) (by unfold yS'; rw [if_neg (by omega)]; exact ob)
      refine c_sitAll (zSt_24 t) (by decide) hH hfa (hC.tf f2) s2 b1 (fun IL3 f3 => kI ?_)
      rw [h7 8 (by decide)]
      have f := zfr_tr f2 f3
      refine zdec (fun z => go (yal H (-1) (fun _ => fa) (S 8) H.k 0 (yS' (yS' S a (S i)) i (S a)) 0, nI a, nI i) IL3 _ f ?_) (fun z => go p IL3 _ f ?_)
      · unfold ysw1; rw [oa, ob, Bool.and_self, if_pos rfl, if_pos z]
      · unfold ysw1; rw [oa, ob, Bool.and_self, if_pos rfl, if_neg z]
theorem l_swap {w : Int32} (hH : yOK H) (hB : ySB H S) (hfa : fa = 0 ∨ fa = 1) (hC : yCH t H IL0) (hS : yCS 22 S IL0) : ∀ (k i : Nat) (IL : zIL) (p : Int32 × Int32 × Int32) (w7 w8 : Value), i + k = H.n → zfr (ytf t) IL0 IL → (∀ IL', zfr (ytf t) IL0 IL' → Q (zFx t, IL') (some (.int (y_swp (yfo (ysw H fa S) k i p) w)))) → gX7_swap xs (d + 5) Q 23 [.ref 0, .int fa, .int w, .int p.1, .int p.2.1, .int p.2.2, .int (nI i), w7, w8] [] (zFx t, IL)
  | 0, i, IL, p, w7, w8, hi, fr, hQ => by
    have n7 := hH.n7
    have hq := hQ IL fr
    unfold yfo y_swp at hq
    refine sX7_swap_23 t _ _ _ _ _ _ _ _ IL (zd_f (hC.tf fr).mem (by omega) (by omega) ?_)
    refine zdec (fun z => ?_) (fun z => ?_)
    · rw [if_pos z] at hq; exact hq
    rw [if_neg z] at hq
    refine zdec (fun z => ?_) (fun z => ?_)
    · rw [if_pos z] at hq; exact hq
    rw [if_neg z] at hq
    refine zdec (fun z => ?_) (fun z => ?_)
    · rw [if_pos z] at hq; exact hq
    rw [if_neg z] at hq
    refine zdec (fun z => ?_) (fun z => ?_)
    · rw [if_pos z] at hq; exact hq
    rw [if_neg z] at hq
    exact hq
  | k + 1, i, IL, p, w7, w8, hi, fr, hQ => by
    have n7 := hH.n7
    unfold yfo at hQ
    refine sX7_swap_23 t _ _ _ _ _ _ _ _ IL (zd_t (hC.tf fr).mem (by omega) (by omega) ?_)
    rw [nI_1]
    refine l_swap41 hH hB hfa hC hS (by omega) (H.n - (i + 1)) (i + 1) IL p w8 (by omega) (by omega) fr (fun IL' w7 w8 f => ?_)
    exact l_swap hH hB hfa hC hS k (i + 1) IL' _ w7 w8 (by omega) f hQ
theorem c_swap {w : Int32} (hH : yOK H) (hC : yCH t H IL) (hS : yCS 22 S IL) (hB : ySB H S) (hfa : fa = 0 ∨ fa = 1) (hQ : ∀ IL', zfr (ytf t) IL IL' → Q (zFx t, IL') (some (.int (r_swap H S fa w)))) : zcall xs (d + 6) 115 (zFx t, IL) [.ref 0, .int fa, .int w] Q := by
  unfold r_swap at hQ
  refine sX7_swap t _ _ IL (c_trial hS (fun IL1 f1 s1 => kA (zk24 ?_)))
  refine c_sitAll (zSt_24 t) (by decide) hH hfa (hC.tf f1) s1 hB (fun IL2 f2 => kI ?_)
  exact l_swap hH hB hfa hC hS H.n 0 IL2 (_, -1, -1) _ _ (by omega) (zfr_tr f1 f2) hQ
end THINK2
