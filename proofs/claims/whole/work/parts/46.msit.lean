/-! a READING: the model's side -/
def ypw (c j : Nat) : Bool := c == 153 || c == 154 || c == 162 || (c == 145 && (j == 54 || j == 55))
theorem ypw_H : ∀ c j, yMHs c j = true → ypw c j = false := by
  intro c j h
  unfold yMHs at h
  unfold ypw
  simp only [Bool.or_eq_true, Bool.and_eq_true, beq_iff_eq] at h
  simp only [Bool.or_eq_false_iff, Bool.and_eq_false_iff, beq_eq_false_iff_ne]
  omega
theorem yMH.pw {H : yH} {A B : zIL} (h : yMH H A) (f : yfm ypw A B) : yMH H B := h.fr (fun c j z => f.1 c j (ypw_H c j z))
theorem yshl0 {i : Nat} (hi : i < 32) : (0 : Int32) <<< (nI i &&& 31) = 0 := b_ext (fun j hj => by rw [b_shl i hi 0 hj, b_0, Bool.and_false, b_0])
theorem yshlb {i : Nat} (hi : i < 32) (x : Int32) (b : Bool) : x ||| ((if b then 1 else 0 : Int32) <<< (nI i &&& 31)) = if b then x ||| (1 <<< (nI i &&& 31)) else x := by
  cases b
  · rw [if_neg (by decide), if_neg (by decide), yshl0 hi, yor0]
  · rw [if_pos rfl, if_pos rfl]
section MSIT
variable {xs : List Int32} {d : Nat} {Q : zQ} {t : Bool} {IL IL0 : zIL} {H : yH} {mo q fa : Int32} {S : Nat → Int32}
theorem c_isOutHere {i : Nat} (hi : i < 32) (h0 : bt (IL.1 162 7) i = false → Q (zFx t, IL) (some (.int 0))) (h1 : bt (IL.1 162 7) i = true → Q (zFx t, IL) (some (.int 1))) : zcall xs (d + 1) 204 (zFx t, IL) [.ref 145, .int (nI i)] Q :=
  sX8_isOutHere t (nI i) IL (zdec (fun g => h1 ((zb_1 _ i hi).mp g)) (fun g => h0 (by
    cases hb : bt (IL.1 162 7) i
    · rfl
    · exact absurd ((zb_1 _ i hi).mpr hb) g)))
theorem c_greater {x y : Int32} (h : Q (zFx t, IL) (some (.int (ygr x y)))) : zcall xs (d + 1) 188 (zFx t, IL) [.int x, .int y] Q := by
  refine sX8_greater t x y IL (zdec (fun g => ?_) (fun g => ?_))
  · unfold ygr at h; rw [if_pos g] at h; exact h
  · unfold ygr at h; rw [if_neg g] at h; exact h
theorem l_mvotesOf {set : Int32} {n : Nat} {vo : Nat → Int32} (hn : IL.1 145 41 = nI n) (h7 : n ≤ 7) (hv : ∀ j, j < n → IL.1 159 j = vo j) : ∀ (k i : Nat) (s : Int32), i + k = n → Q (zFx t, IL) (some (.int (zvs vo set k i s))) → gX8_votesOf xs d Q 4 [.ref 145, .int set, .int s, .int (nI i)] [] (zFx t, IL)
  | 0, i, s, hi, hQ => sX8_votesOf_4 t set s (nI i) IL (zdec (fun h => absurd h (by rw [hn]; exact nI_nlt (by omega) (by omega))) (fun _ => hQ))
  | k + 1, i, s, hi, hQ => by
    unfold zvs at hQ
    refine sX8_votesOf_4 t set s (nI i) IL (zdec (fun _ => zdec (fun hb => zix_i (vp_in_nI (by omega) (by omega)) ?_) (fun hb => ?_)) (fun h => absurd (by rw [hn]; exact nI_lt (by omega) (by omega)) h))
    · rw [(zb_1 set i (by omega)).mp hb] at hQ
      rw [nI_1, nI_clamp (by omega), hv i (by omega)]
      exact l_mvotesOf hn h7 hv k (i + 1) _ (by omega) hQ
    · have hb' : bt set i = false := by
        cases e : bt set i
        · rfl
        · exact absurd ((zb_1 set i (by omega)).mpr e) hb
      rw [hb'] at hQ
      rw [nI_1, Int32.add_zero]
      exact l_mvotesOf hn h7 hv k (i + 1) _ (by omega) hQ
theorem c_mvotesOf {set : Int32} (hH : yOK H) (hM : yMH H IL) (hQ : Q (zFx t, IL) (some (.int (zvs H.vo set H.n 0 0)))) : zcall xs (d + 1) 207 (zFx t, IL) [.ref 145, .int set] Q := sX8_votesOf t set IL (l_mvotesOf hM.mem hH.n7 hM.vo H.n 0 0 (by omega) hQ)
theorem c_isFor {i : Nat} (hi : i < 11) {b : Bool} (hb : b = (!bt (IL.1 162 7) i || decide (2 * IL.1 162 i < IL.1 145 44))) (h : Q (zFx t, IL) (some (.int (if b then 1 else 0)))) : zcall xs (d + 2) 206 (zFx t, IL) [.ref 145, .int (nI i)] Q := by
  refine sX8_isFor t (nI i) IL (c_isOutHere (by omega) (fun g => (kI ?_)) (fun g => (kI ?_)))
  · rw [g] at hb
    rw [hb] at h
    exact h
  · rw [g] at hb
    show zix _ _ _
    refine zix_i (vp_in_nI (by omega) (by omega)) ?_
    rw [nI_clamp (by omega)]
    refine zdec (fun z => ?_) (fun z => ?_)
    · rw [decide_eq_true z] at hb
      rw [hb] at h
      exact h
    · rw [decide_eq_false z] at hb
      rw [hb] at h
      exact h
theorem l_windAll (hH : yOK H) (hB : ySB H S) (hM : yMH H IL0) (hmo : mo = -1 ∨ ¬ mo < 0) (h27 : IL0.1 145 27 = mo) (hQ : ∀ IL', yfm ypw IL0 IL' → yMS 162 (yS1 H mo q fa S H.n) IL' → IL'.1 145 54 = yset (yoff H mo q fa S) H.n → IL'.1 145 55 = yset (yfor H mo q fa S) H.n → Q (zFx t, IL') (some (.int (if ypas H mo q fa S then 1 else 0)))) : ∀ (k i : Nat) (IL : zIL) (w5 : Value), i + k = H.n → yfm ypw IL0 IL → yMS 162 (yS1 H mo q fa S i) IL → IL.1 145 54 = yset (yoff H mo q fa S) i → IL.1 145 55 = yset (yfor H mo q fa S) i → gX8_windAll xs (d + 3) Q 24 [.ref 145, .int q, .int fa, .int (yre S), .int (nI i), w5] [] (zFx t, IL)
  | 0, i, IL, w5, hi, fr, hn, h5, h6 => by
    have n7 := hH.n7
    have hMI := hM.pw fr
    refine sX8_windAll_24 t _ _ _ _ w5 IL (zdec (fun h => absurd h (by rw [hMI.mem]; exact nI_nlt (by omega) (by omega))) (fun _ => ?_))
    have ei : i = H.n := by omega
    subst ei
    have fin := hQ IL fr hn h5 h6
    rw [h5, h6]
    refine zdec (fun z => c_mvotesOf hH hMI (kI ?_)) (fun z => ?_)
    · rw [hMI.quota]
      refine zdec (fun w => ?_) (fun w => ?_)
      · have hp : ypas H mo q fa S = false := by unfold ypas; rw [decide_eq_true z, decide_eq_true w]; rfl
        rw [hp] at fin
        exact sX8_windAll_189 t _ _ _ _ w5 IL fin
      · have hp : ypas H mo q fa S = true := by unfold ypas; rw [decide_eq_true z, decide_eq_false w]; rfl
        rw [hp] at fin
        exact fin
    · have hp : ypas H mo q fa S = false := by unfold ypas; rw [decide_eq_false z]; rfl
      rw [hp] at fin
      exact sX8_windAll_189 t _ _ _ _ w5 IL fin
  | k + 1, i, IL, w5, hi, fr, hn, h5, h6 => by
    have n7 := hH.n7
    have hMI := hM.pw fr
    have im : vp_in (nI i) 11 := vp_in_nI (by omega) (by omega)
    have cm : (nI i).toNatClampNeg = i := nI_clamp (by omega)
    have o7 : IL.1 162 7 = S 7 := by rw [hn 7 (by decide)]; unfold yS1; rw [if_neg (fun z => by have := z.1; omega)]
    have no : IL.1 162 i = S i := by rw [hn i (by omega)]; unfold yS1; rw [if_neg (fun z => by have := z.1; omega)]
    -- behind one
    have on : ∀ (IL3 : zIL) (b : Int32), yfm ypw IL0 IL3 → yMS 162 (yS1 H mo q fa S (i + 1)) IL3 → IL3.1 145 54 = yset (yoff H mo q fa S) (i + 1) → IL3.1 145 55 = yset (yfor H mo q fa S) (i + 1) → gX8_windAll xs (d + 3) Q 157 [.ref 145, .int q, .int fa, .int (yre S), .int (nI i), .int b] [] (zFx t, IL3) := by
      intro IL3 b f3 e1 e2 e3
      refine sX8_windAll_157 t _ _ _ _ _ IL3 ?_
      rw [nI_1]
      exact l_windAll hH hB hM hmo h27 hQ k (i + 1) IL3 _ (by omega) f3 e1 e2 e3
    -- who doesn't go off
    have stay : ∀ (IL3 : zIL), yfm ypw IL0 IL3 → yMS 162 (yS1 H mo q fa S (i + 1)) IL3 → IL3.1 145 54 = yset (yoff H mo q fa S) i → yoff H mo q fa S i = false → IL3.1 145 55 = yset (yfor H mo q fa S) i → yfor H mo q fa S i = (!bt (S 7) i || decide (2 * IL3.1 162 i < H.cock)) → gX8_windAll xs (d + 3) Q 104 [.ref 145, .int q, .int fa, .int (yre S), .int (nI i), w5] [] (zFx t, IL3) := by
      intro IL3 f3 e1 e2 e3 e4 e5
      have hM3 := hM.pw f3
      have p7 : IL3.1 162 7 = S 7 := by rw [e1 7 (by decide)]; unfold yS1; rw [if_neg (fun z => by have := z.1; omega)]
      refine sX8_windAll_104 t _ _ _ _ w5 IL3 (c_isFor (b := yfor H mo q fa S i) (by omega) (by rw [p7, hM3.cock]; exact e5) (kI (c_truth (kI ?_))))
      rw [yshlb (by omega), e4]
      refine on _ 0 (yfm_tr f3 (yfm_wi rfl)) (fun j hj => by rw [zwi_ne (by decide)]; exact e1 j hj) (by rw [zwi_at, if_neg (by decide), e2, yset, if_neg (by rw [e3]; decide)]) (by rw [zwi_at, if_pos rfl, yset])
    refine sX8_windAll_24 t _ _ _ _ w5 IL (zdec (fun _ => ?_) (fun h => absurd (by rw [hMI.mem]; exact nI_lt (by omega) (by omega)) h))
    refine c_isOutHere (by omega) (fun hb => (kI ?_)) (fun hb => (kI ?_))
    · rw [o7] at hb
      show gX8_windAll xs (d + 3) Q 77 [.ref 145, .int q, .int fa, .int (yre S), .int (nI i), w5] [] (zFx t, IL)
      refine sX8_windAll_77 t _ _ _ _ w5 IL (c_isOutHere (by omega) (fun _ => (kI ?_)) (fun g => absurd g (by rw [o7, hb]; decide)))
      show gX8_windAll xs (d + 3) Q 104 [.ref 145, .int q, .int fa, .int (yre S), .int (nI i), w5] [] (zFx t, IL)
      refine stay IL fr (fun j hj => ?_) h5 (by unfold yoff; rw [hb]; rfl) h6 (by unfold yfor; rw [hb]; rfl)
      rw [yS1_s, if_neg (fun z => by rw [hb] at z; cases z.2)]
      exact hn j hj
    · rw [o7] at hb
      show zix _ _ (zix _ _ _)
      refine zix_i im (zix_i im ?_)
      rw [cm, no]
      have n27 : IL.1 145 27 = mo := by rw [fr.1 145 27 rfl, h27]
      refine c_mwindOf (ss := H.ss) (mi := ymi H mo i) (vo := H.vo i) hH.ss hH.bk (by omega) hMI.form hMI.len hMI.ss (hMI.vo i (by omega)) ?_ (fun IL2 f2 => (kI (c_greater (kI (zix_i im ?_)))))
      · rw [n27]
        unfold ymi
        rcases hmo with h | h
        · rw [if_pos h, h, if_pos (by decide), hMI.mi i (by omega)]
        · rw [if_neg (fun z => by rw [z] at h; exact h (by decide)), if_neg h]
      · have hb99 : yin (S i) 0 99 := ⟨(hB.no i (by omega)).1, by have := (hB.no i (by omega)).2; omega⟩
        rw [y_wind hb99]
        have ey : ynw (S i) (zwv H.ss q (ymi H mo i) (H.vo i) (S i) fa (yre S)) = yno H mo q fa S i := rfl
        rw [ey]
        have f2' : yfm ypw IL0 IL2 := yfm_tr fr (yfm_zfr f2 (fun c hc j => by
          simp only [List.mem_cons, List.not_mem_nil, or_false] at hc
          rcases hc with rfl | rfl <;> rfl))
        have f3 : ∀ v, yfm ypw IL0 (zwi IL2 162 i v) := fun v => yfm_tr f2' (yfm_wi rfl)
        have c162 : IL2.1 162 = IL.1 162 := f2.1 _ (by decide)
        have c145 : IL2.1 145 = IL.1 145 := f2.1 _ (by decide)
        have w7 : ∀ v, (zwi IL2 162 i v).1 162 7 = S 7 := fun v => by rw [zwi_at, if_neg (by omega), c162, o7]
        have hM3 := hM.pw (f3 (yno H mo q fa S i))
        refine sX8_windAll_77 t _ _ _ _ w5 _ (c_isOutHere (by omega) (fun g => absurd g (by rw [w7, hb]; decide)) (fun _ => (kI ?_)))
        show zix _ _ _
        refine zix_i im ?_
        rw [cm, hM3.cock, zwi_at, if_pos rfl]
        refine zdec (fun z => ?_) (fun z => zix_i im ?_)
        · refine stay _ (f3 _) (fun j hj => ?_) (by rw [zwi_ne (by decide), c145, h5]) (by unfold yoff; rw [decide_eq_true z]; simp) (by rw [zwi_ne (by decide), c145, h6]) (by unfold yfor; rw [decide_eq_true z, zwi_at, if_pos rfl, Bool.true_and])
          rw [zwi_at, yS1_s]
          by_cases e : j = i
          · rw [if_pos e, if_pos ⟨e, hb⟩]
            unfold ynv
            rw [if_pos z]
          · rw [if_neg e, if_neg (fun z => e z.1), c162]
            exact hn j hj
        · rw [zwi_ne (show 145 ≠ 162 by decide), zwi_ne (show 145 ≠ 162 by decide), c145, h5]
          refine on _ 1 (yfm_tr (f3 _) (yfm_tr (yfm_wi rfl) (yfm_wi rfl))) (fun j hj => ?_) ?_ ?_
          · rw [zwi_ne (by decide), zwi_at, yS1_s]
            by_cases e : j = i
            · rw [if_pos e, if_pos ⟨e, hb⟩]
              unfold ynv
              rw [if_neg z]
            · rw [if_neg e, if_neg (fun z => e z.1), zwi_at, if_neg e, c162]
              exact hn j hj
          · rw [zwi_at, if_pos rfl, yset, if_pos (by unfold yoff; rw [decide_eq_false z, hb]; rfl)]
          · rw [zwi_at, if_neg (by decide), zwi_ne (by decide), zwi_ne (by decide), c145, h6, yset, if_neg (by unfold yfor; rw [decide_eq_false z, hb]; simp)]
theorem c_windAll (hH : yOK H) (hB : ySB H S) (hM : yMH H IL) (hmo : mo = -1 ∨ ¬ mo < 0) (h27 : IL.1 145 27 = mo) (hS : yMS 162 S IL) (hQ : ∀ IL', yfm ypw IL IL' → yMS 162 (yS1 H mo q fa S H.n) IL' → IL'.1 145 54 = yset (yoff H mo q fa S) H.n → IL'.1 145 55 = yset (yfor H mo q fa S) H.n → Q (zFx t, IL') (some (.int (if ypas H mo q fa S then 1 else 0)))) : zcall xs (d + 4) 208 (zFx t, IL) [.ref 145, .int q, .int fa] Q := by
  refine sX8_windAll t _ _ IL (c_members (kI ?_))
  rw [hS 8 (by decide)]
  refine l_windAll (S := S) hH hB hM hmo h27 hQ H.n 0 _ _ (by omega) (yfm_tr (yfm_wi rfl) (yfm_wi rfl)) (fun j hj => ?_) ?_ ?_
  · rw [zwi_ne (by decide), zwi_ne (by decide), hS j hj]
    unfold yS1
    rw [if_neg (fun z => by have := z.1; omega)]
  · rw [zwi_at, if_neg (by decide), zwi_at, if_pos rfl]
    rfl
  · rw [zwi_at, if_pos rfl]
    rfl
end MSIT
