/-! States: the model's side -/
theorem ypu_n {H : yH} {S : Nat → Int32} {i j : Nat} (h : ¬ (j = i ∧ bt (S 7) i = true ∧ yrm (ysd (S 10)) 100 < H.puns)) : ypu H S (i + 1) j = ypu H S i j := by
  unfold ypu
  by_cases q : j = i
  · subst q
    rw [if_neg (c := j < j + 1 ∧ _) (fun z => h ⟨rfl, z.2⟩), if_neg (c := j < j ∧ _) (fun z => by have := z.1; omega)]
  · have : (j < i + 1) = (j < i) := propext ⟨fun _ => by omega, fun _ => by omega⟩
    simp only [this]
theorem ypu_hi {H : yH} {S : Nat → Int32} {i j : Nat} (h : i ≤ j) (hj : j ≠ 10) : ypu H S i j = S j := by
  unfold ypu
  rw [if_neg hj, if_neg (fun z => by have := z.1; omega)]
theorem ypu_10 {H : yH} {S : Nat → Int32} {i : Nat} : ypu H S i 10 = ysd (S 10) := by
  unfold ypu
  rw [if_pos rfl]
def yle (a b : Int32) : Int32 := if a < b then a else b
theorem yle_min (a b : Int32) : yle a b = zmin a b := by
  apply Int32.toInt_inj.mp
  rw [zmin_i]
  unfold yle
  split
  · have := Int32.lt_iff_toInt_lt.mp ‹_›; omega
  · have : ¬ a.toInt < b.toInt := fun z => absurd (Int32.lt_iff_toInt_lt.mpr z) ‹_›; omega
section MST
variable {xs : List Int32} {d : Nat} {Q : zQ} {t u : Bool} {IL IL0 : zIL} {H : yH} {c : Nat} {mo q fa : Int32} {S : Nat → Int32}
theorem c_lesser {x y : Int32} (h : Q (zFx t, IL) (some (.int (yle x y)))) : zcall xs (d + 1) 187 (zFx t, IL) [.int x, .int y] Q := by
  refine sX8_lesser t x y IL (zdec (fun g => ?_) (fun g => ?_))
  · unfold yle at h; rw [if_pos g] at h; exact h
  · unfold yle at h; rw [if_neg g] at h; exact h
theorem l_fill (hS : yMS 161 S IL0) (hQ : ∀ IL', zfr [162] IL0 IL' → yMS 162 S IL' → Q (zFx t, IL') none) : ∀ (k i : Nat) (IL : zIL), i + k = 11 → zfr [162] IL0 IL → (∀ j, j < i → IL.1 162 j = S j) → gX8_fill xs d Q 2 [.ref 145, .int (nI i)] [] (zFx t, IL)
  | 0, i, IL, hi, fr, h => sX8_fill_2 t _ IL (zd_f (n := 11) rfl (by omega) (by omega) (hQ IL fr (fun j hj => h j (by omega))))
  | k + 1, i, IL, hi, fr, h => by
    refine sX8_fill_2 t _ IL (zd_t (n := 11) rfl (by omega) (by omega) (zix_n (by omega) (by omega) (zix_n (by omega) (by omega) ?_)))
    rw [nI_1, ycl (by omega), fr.1 161 (by decide), hS i (by omega)]
    refine l_fill hS hQ k (i + 1) _ (by omega) (zfr_tr fr (zfr_wi (by decide))) (fun j hj => ?_)
    rw [zwi_at]
    by_cases e : j = i
    · rw [if_pos e, e]
    · rw [if_neg e, h j (by omega)]
theorem c_fill (hS : yMS 161 S IL) (hQ : ∀ IL', zfr [162] IL IL' → yMS 162 S IL' → Q (zFx t, IL') none) : zcall xs (d + 1) 200 (zFx t, IL) [.ref 145] Q := sX8_fill t IL (l_fill hS hQ 11 0 IL (by omega) zfr_rf (fun j hj => absurd hj (Nat.not_lt_zero j)))
theorem l_keepAir (hS : yMS 162 S IL0) (hQ : ∀ IL', zfr [161] IL0 IL' → yMS 161 S IL' → Q (zFx t, IL') none) : ∀ (k i : Nat) (IL : zIL), i + k = 11 → zfr [161] IL0 IL → (∀ j, j < i → IL.1 161 j = S j) → gX8_keepAir xs d Q 2 [.ref 145, .int (nI i)] [] (zFx t, IL)
  | 0, i, IL, hi, fr, h => sX8_keepAir_2 t _ IL (zd_f (n := 11) rfl (by omega) (by omega) (hQ IL fr (fun j hj => h j (by omega))))
  | k + 1, i, IL, hi, fr, h => by
    refine sX8_keepAir_2 t _ IL (zd_t (n := 11) rfl (by omega) (by omega) (zix_n (by omega) (by omega) (zix_n (by omega) (by omega) ?_)))
    rw [nI_1, ycl (by omega), fr.1 162 (by decide), hS i (by omega)]
    refine l_keepAir hS hQ k (i + 1) _ (by omega) (zfr_tr fr (zfr_wi (by decide))) (fun j hj => ?_)
    rw [zwi_at]
    by_cases e : j = i
    · rw [if_pos e, e]
    · rw [if_neg e, h j (by omega)]
theorem c_keepAir (hS : yMS 162 S IL) (hQ : ∀ IL', zfr [161] IL IL' → yMS 161 S IL' → Q (zFx t, IL') none) : zcall xs (d + 1) 201 (zFx t, IL) [.ref 145] Q := sX8_keepAir t IL (l_keepAir hS hQ 11 0 IL (by omega) zfr_rf (fun j hj => absurd hj (Nat.not_lt_zero j)))
theorem l_punAll (hH : yOK H) (hM : yMH H IL0) (hQ : ∀ IL', yfm ypw IL0 IL' → yMS 162 (ypun H S) IL' → Q (zFx t, IL') none) : ∀ (k i : Nat) (IL : zIL), i + k = H.n → yfm ypw IL0 IL → yMS 162 (ypu H S i) IL → gX8_punAll xs (d + 1) Q 27 [.ref 145, .int (nI i)] [] (zFx t, IL)
  | 0, i, IL, hi, fr, hS => by
    have n7 := hH.n7
    have e : i = H.n := by omega
    subst e
    exact sX8_punAll_27 t _ IL (zd_f (hM.pw fr).mem (by omega) (by omega) (hQ IL fr hS))
  | k + 1, i, IL, hi, fr, hS => by
    have n7 := hH.n7
    have hMI := hM.pw fr
    have e7 : IL.1 162 7 = S 7 := by rw [hS 7 (by decide), ypu_hi (by omega) (by decide)]
    refine sX8_punAll_27 t _ IL (zd_t hMI.mem (by omega) (by omega) ⟨by decide, ?_⟩)
    rw [hMI.puns, hS 10 (by decide), ypu_10]
    have skip : ¬ (bt (S 7) i = true ∧ yrm (ysd (S 10)) 100 < H.puns) → gX8_punAll xs (d + 1) Q 27 [.ref 145, .int (nI i + 1)] [] (zFx t, IL) := fun hn => by
      rw [nI_1]
      exact l_punAll hH hM hQ k (i + 1) IL (by omega) fr (fun j hj => by rw [ypu_n (fun z => hn z.2)]; exact hS j hj)
    refine zdec (fun z => c_isOutHere (by omega) (fun hb => (kI ?_)) (fun hb => (kI ?_))) (fun z => skip (fun w => z w.2))
    · rw [e7] at hb
      exact skip (fun w => by rw [hb] at w; cases w.1)
    · rw [e7] at hb
      refine zix_n (by omega) (by omega) (c_lesser (kI (zix_n (by omega) (by omega) ?_)))
      rw [nI_1, ycl (by omega), yle_min, hS i (by omega), ypu_hi (by omega) (by omega)]
      refine l_punAll hH hM hQ k (i + 1) _ (by omega) (yfm_tr fr (yfm_wi rfl)) (fun j hj => ?_)
      rw [zwi_at]
      by_cases e : j = i
      · subst e
        rw [if_pos rfl]
        unfold ypu
        rw [if_neg (by omega), if_pos ⟨by omega, hb, z⟩]
      · rw [if_neg e, ypu_n (fun w => e w.1), hS j hj]
theorem c_punAll (hH : yOK H) (hM : yMH H IL) (hS : yMS 162 S IL) (hQ : ∀ IL', yfm ypw IL IL' → yMS 162 (ypun H S) IL' → Q (zFx t, IL') none) : zcall xs (d + 2) 209 (zFx t, IL) [.ref 145] Q := by
  refine sX8_punAll t IL ⟨by decide, ?_⟩
  rw [hS 10 (by decide)]
  have ev : ((S 10 * 137 + 71) - (S 10 * 137 + 71) / 1000 * 1000) = ysd (S 10) := rfl
  rw [ev]
  refine l_punAll (S := S) hH hM hQ H.n 0 _ (by omega) (yfm_wi rfl) (fun j hj => ?_)
  rw [zwi_at]
  by_cases e : j = 10
  · rw [if_pos e, e, ypu_10]
  · rw [if_neg e, ypu_hi (by omega) e, hS j hj]
theorem c_readOne0 (hH : yOK H) (hB : ySB H S) (hM : yMH H IL) (hmo : mo = -1 ∨ ¬ mo < 0) (h27 : IL.1 145 27 = mo) (hc : c < H.k) (hS : yMS 162 S IL) (hQ : ∀ IL', yfm ypw IL IL' → yMS 162 (ysit H mo (H.sh c) fa c S) IL' → Q (zFx t, IL') (some (.int (if ypas H mo (H.sh c) fa S then 1 else 0)))) : zcall xs (d + 5) 210 (zFx t, IL) [.ref 145, .int (nI c), .int fa, .int 0] Q := by
  have k6 := hH.k6
  have n7 := hH.n7
  refine sX8_readOne t _ _ _ IL (zix_n (by omega) (by omega) ?_)
  rw [ycl (by omega), hM.sh c hc]
  refine c_windAll hH hB hM hmo h27 hS (fun IL1 f1 s1 _ _ => (kI (c_truth (kI ?_))))
  rw [zwi_at, if_neg (show ¬ (9 : Nat) = 8 by decide), yshlb (by omega), s1 8 (by decide), s1 9 (by decide)]
  have := hQ (zwi (zwi IL1 162 8 (S 8 ||| (1 <<< (nI c &&& 31)))) 162 9 (if ypas H mo (H.sh c) fa S then S 9 ||| (1 <<< (nI c &&& 31)) else S 9)) (yfm_tr f1 (yfm_tr (yfm_wi rfl) (yfm_wi rfl))) (fun j hj => ?_)
  · have e8 : yS1 H mo (H.sh c) fa S H.n 8 = S 8 := by unfold yS1; rw [if_neg (fun z => by have := z.1; omega)]
    have e9 : yS1 H mo (H.sh c) fa S H.n 9 = S 9 := by unfold yS1; rw [if_neg (fun z => by have := z.1; omega)]
    rw [e8, e9]
    revert this
    cases ypas H mo (H.sh c) fa S <;> exact id
  · unfold ysit
    rw [zwi_at]
    by_cases e : j = 9
    · subst e; rfl
    · rw [if_neg e, zwi_at]
      by_cases e2 : j = 8
      · rw [if_pos e2, if_pos e2]
      · rw [if_neg e2, if_neg e2, if_neg e, s1 j hj]
theorem c_readOne1 (hH : yOK H) (hB : ySB H S) (hM : yMH H IL) (hmo : mo = -1 ∨ ¬ mo < 0) (h27 : IL.1 145 27 = mo) (hc : c < H.k) (hS : yMS 162 S IL) (hQ : ∀ IL', yfm ypw IL IL' → yMS 162 (ypun H (ysit H mo (H.sh c) fa c S)) IL' → Q (zFx t, IL') (some (.int (if ypas H mo (H.sh c) fa S then 1 else 0)))) : zcall xs (d + 5) 210 (zFx t, IL) [.ref 145, .int (nI c), .int fa, .int 1] Q := by
  have k6 := hH.k6
  have n7 := hH.n7
  refine sX8_readOne t _ _ _ IL (zix_n (by omega) (by omega) ?_)
  rw [ycl (by omega), hM.sh c hc]
  refine c_windAll hH hB hM hmo h27 hS (fun IL1 f1 s1 _ _ => (kI (c_truth (kI ?_))))
  rw [zwi_at, if_neg (show ¬ (9 : Nat) = 8 by decide), yshlb (by omega), s1 8 (by decide), s1 9 (by decide)]
  have e8 : yS1 H mo (H.sh c) fa S H.n 8 = S 8 := by unfold yS1; rw [if_neg (fun z => by have := z.1; omega)]
  have e9 : yS1 H mo (H.sh c) fa S H.n 9 = S 9 := by unfold yS1; rw [if_neg (fun z => by have := z.1; omega)]
  rw [e8, e9]
  have f2 : yfm ypw IL (zwi (zwi IL1 162 8 (S 8 ||| (1 <<< (nI c &&& 31)))) 162 9 (if ypas H mo (H.sh c) fa S then S 9 ||| (1 <<< (nI c &&& 31)) else S 9)) := yfm_tr f1 (yfm_tr (yfm_wi rfl) (yfm_wi rfl))
  refine z1 ?_
  refine c_punAll (S := ysit H mo (H.sh c) fa c S) hH (hM.pw f2) (fun j hj => ?_) (fun IL3 f3 s3 => (kV (zbi ?_)))
  · unfold ysit
    rw [zwi_at]
    by_cases e : j = 9
    · subst e; rfl
    · rw [if_neg e, zwi_at]
      by_cases e2 : j = 8
      · rw [if_pos e2, if_pos e2]
      · rw [if_neg e2, if_neg e2, if_neg e, s1 j hj]
  · exact hQ IL3 (yfm_tr f2 f3) s3
theorem c_isRead {i : Nat} (hi : i < 32) (h0 : bt (IL.1 161 8) i = false → Q (zFx t, IL) (some (.int 0))) (h1 : bt (IL.1 161 8) i = true → Q (zFx t, IL) (some (.int 1))) : zcall xs (d + 1) 205 (zFx t, IL) [.ref 145, .int (nI i)] Q :=
  sX8_isRead t (nI i) IL (zdec (fun g => h1 ((zb_1 _ i hi).mp g)) (fun g => h0 (y_bit (fun hb => g ((zb_1 _ i hi).mpr hb)))))
theorem l_carriedBy {r fs : Int32} {f : Nat → Int32} (hH : yOK H) (hM : yMH H IL0) (hmo : mo = -1 ∨ ¬ mo < 0) (h27 : IL0.1 145 27 = mo) (hr : IL0.1 161 8 = r) (hf : ∀ j, j < H.k → f j = (fs >>> (nI j &&& 31)) &&& 1) : ∀ (k i : Nat) (IL : zIL) (S : Nat → Int32) (a : Int32), i + k = H.k → yfm ypw IL0 IL → yMS 162 S IL → ySB H S → (∀ IL', yfm ypw IL0 IL' → Q (zFx t, IL') (some (.int (yal H mo f r k i S a)))) → gX8_carriedBy xs (d + 5) Q 4 [.ref 145, .int fs, .int a, .int (nI i)] [] (zFx t, IL)
  | 0, i, IL, S, a, hi, fr, hS, hB, hQ => by
    have k6 := hH.k6
    exact sX8_carriedBy_4 t _ _ _ IL (zd_f (hM.pw fr).cla (by omega) (by omega) (hQ IL fr))
  | k + 1, i, IL, S, a, hi, fr, hS, hB, hQ => by
    have k6 := hH.k6
    have hMI := hM.pw fr
    unfold yal at hQ
    have er : IL.1 161 8 = r := by rw [fr.1 161 8 rfl, hr]
    refine sX8_carriedBy_4 t _ _ _ IL (zd_t hMI.cla (by omega) (by omega) ?_)
    refine c_isRead (by omega) (fun hb => (kI ?_)) (fun hb => (kI ?_))
    · rw [er] at hb
      rw [hb, hf i (by omega)] at hQ
      refine z0 ?_
      refine c_readOne0 hH hB hMI hmo (by rw [fr.1 145 27 rfl, h27]) (by omega) hS (fun IL' f1 s1 => (kI (c_truth (kI ?_))))
      have go : ∀ (a' : Int32), (∀ IL', yfm ypw IL0 IL' → Q (zFx t, IL') (some (.int (yal H mo f r k (i + 1) (ysit H mo (H.sh i) ((fs >>> (nI i &&& 31)) &&& 1) i S) a')))) → gX8_carriedBy xs (d + 5) Q 4 [.ref 145, .int fs, .int a', .int (nI i + 1)] [] (zFx t, IL') := fun a' hq => by
        rw [nI_1]
        exact l_carriedBy hH hM hmo h27 hr hf k (i + 1) IL' _ a' (by omega) (yfm_tr fr f1) s1 (ySB_sit hH hB _ _ _ (by omega)) hq
      revert hQ
      cases ypas H mo (H.sh i) ((fs >>> (nI i &&& 31)) &&& 1) S
      · exact fun hQ => by
          have := go (a + 0) (by rw [Int32.add_zero]; exact hQ)
          exact this
      · exact fun hQ => go (a + 1) hQ
    · rw [er] at hb
      rw [hb] at hQ
      show gX8_carriedBy xs (d + 5) Q 4 [.ref 145, .int fs, .int a, .int (nI i + 1)] [] (zFx t, IL)
      rw [nI_1]
      exact l_carriedBy hH hM hmo h27 hr hf k (i + 1) IL S a (by omega) fr hS hB hQ
theorem c_carriedBy {r fs : Int32} {f : Nat → Int32} (hH : yOK H) (hB : ySB H S) (hM : yMH H IL) (hmo : mo = -1 ∨ ¬ mo < 0) (h27 : IL.1 145 27 = mo) (hr : IL.1 161 8 = r) (hf : ∀ j, j < H.k → f j = (fs >>> (nI j &&& 31)) &&& 1) (hS : yMS 162 S IL) (hQ : ∀ IL', yfm ypw IL IL' → Q (zFx t, IL') (some (.int (yal H mo f r H.k 0 S 0)))) : zcall xs (d + 6) 229 (zFx t, IL) [.ref 145, .int fs] Q :=
  sX8_carriedBy t _ IL (l_carriedBy hH hM hmo h27 hr hf H.k 0 IL S 0 (by omega) yfm_rf hS hB hQ)
theorem c_thinkRead (hH : yOK H) (hB : ySB H S) (hM : yMH H IL) (hmo : mo = -1 ∨ ¬ mo < 0) (h27 : IL.1 145 27 = mo) (hS : yMS 161 S IL) (hQ : ∀ IL', yfm ypw IL IL' → IL'.1 145 54 = yset (yoff H mo q fa S) H.n → IL'.1 145 55 = yset (yfor H mo q fa S) H.n → Q (zFx t, IL') (some (.int (if ypas H mo q fa S then 1 else 0)))) : zcall xs (d + 5) 224 (zFx t, IL) [.ref 145, .int q, .int fa] Q := by
  refine sX8_thinkRead t _ _ IL (c_fill hS (fun IL1 f1 s1 => (kV ?_)))
  have f1' : yfm ypw IL IL1 := yfm_zfr f1 (fun c hc j => by rw [List.mem_singleton.mp hc]; rfl)
  refine c_windAll hH hB (hM.pw f1') hmo (by rw [f1.1 145 (by decide), h27]) s1 (fun IL2 f2 _ e1 e2 => (kI ?_))
  have := hQ IL2 (yfm_tr f1' f2) e1 e2
  revert this
  cases ypas H mo q fa S <;> exact id
end MST
