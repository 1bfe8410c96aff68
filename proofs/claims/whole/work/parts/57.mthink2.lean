/-! tones, usher, swap: the model's side -/
theorem y_tri {a b : Int32} (h1 : ¬ a < b) (h2 : ¬ a = b) : b < a := by
  rw [Int32.lt_iff_toInt_lt] at h1 ⊢
  have : ¬ a.toInt = b.toInt := fun e => h2 (Int32.toInt_inj.mp e)
  omega
theorem y_asym {a b : Int32} (h : a < b) : ¬ b < a ∧ ¬ a = b := by
  rw [Int32.lt_iff_toInt_lt] at h
  refine ⟨fun z => ?_, fun z => ?_⟩
  · rw [Int32.lt_iff_toInt_lt] at z; omega
  · rw [z] at h; omega
section MTHINK2
variable {xs : List Int32} {d : Nat} {Q : zQ} {t : Bool} {IL IL0 : zIL} {H : yH} {fa : Int32} {S : Nat → Int32}
theorem l_mtones {w : Int32} {r : Nat} (hH : yOK H) (hB : ySB H S) (hM : yMH H IL0) (hS : yMS 161 S IL0) (h27 : IL0.1 145 27 = -1) (hr : S 8 = nI r) (hr2 : r < 2 ^ H.k) : ∀ (k i : Nat) (IL : zIL) (p : Int32 × Int32) (w6 : Value), i + k = 2 ^ H.k → yfm ypw IL0 IL → (∀ IL', yfm ypw IL0 IL' → Q (zFx t, IL') (some (.int (if w = 0 then (yfo (yton H S) k i p).1 else (yfo (yton H S) k i p).2)))) → gX8_tones xs (d + 6) Q 38 [.ref 145, .int w, .int (ymay H.k (S 8)), .int p.2, .int p.1, .int (nI i), w6] [] (zFx t, IL)
  | 0, i, IL, p, w6, hi, fr, hQ => by
    have k6 := hH.k6
    have hq := hQ IL fr
    unfold yfo at hq
    refine sX8_tones_38 t _ _ _ _ _ _ IL (zdec (fun _ => zdec (fun z => ?_) (fun z => ?_)) (fun z => absurd ?_ z))
    · rw [if_pos z] at hq; exact hq
    · rw [if_neg z] at hq; exact hq
    · rw [hr, show i = 2 ^ H.k by omega]
      exact y_may3 H.k k6 r hr2
  | k + 1, i, IL, p, w6, hi, fr, hQ => by
    have k6 := hH.k6
    have pw := y_pw7 (n := H.k) (by omega)
    have hMI := hM.pw fr
    have hSI := hS.pw fr
    refine sX8_tones_38 t _ _ _ _ _ _ IL (zdec (fun zm => ?_) (fun zm => ?_))
    · have e : yfo (yton H S) (k + 1) i p = p := yfo_id (k + 1) i p (fun j b h1 h2 => by
        unfold yton
        rw [if_neg]
        rw [hr]
        refine y_may2 H.k k6 r hr2 j (by omega) ?_
        rw [hr] at zm
        rw [Int32.lt_iff_toInt_lt] at zm ⊢
        have := nI_toInt (n := i) (by omega)
        have := nI_toInt (n := j) (by omega)
        omega)
      have hq := hQ IL fr
      rw [e] at hq
      refine zdec (fun z => ?_) (fun z => ?_)
      · rw [if_pos z] at hq; exact hq
      · rw [if_neg z] at hq; exact hq
    · unfold yfo at hQ
      have go : ∀ (p' : Int32 × Int32) (IL' : zIL) (w6 : Value), yfm ypw IL0 IL' → p' = yton H S i p → gX8_tones xs (d + 6) Q 38 [.ref 145, .int w, .int (ymay H.k (S 8)), .int p'.2, .int p'.1, .int (nI i + 1), w6] [] (zFx t, IL') := fun p' IL' w6 f e => by
        rw [nI_1]
        exact l_mtones hH hB hM hS h27 hr hr2 k (i + 1) IL' p' w6 (by omega) f (by rw [e]; exact hQ)
      have cnd := y_may1 H.k k6 r hr2 i (by omega)
      rw [← hr] at cnd
      refine zdec (fun z => c_fill hSI (fun IL1 f1 s1 => kV ?_)) (fun z => go p IL _ fr ?_)
      · have zc : (nI i) &&& (S 8) = 0 := by
          rw [decide_eq_true z] at cnd
          exact of_decide_eq_true cnd
        have g1 := yfm_tr fr (yfm_fill f1)
        refine c_carriedBy (r := S 8) (f := fun c => if bt (nI i) c then 1 else 0) hH hB (hM.pw g1) (Or.inl rfl) (y_h27 h27 g1) (hS.pw g1 8 (by decide)) (fun j hj => (zb_and1 (nI i) j (by omega)).symm) s1 (fun IL2 f2 => kI ?_)
        have f := yfm_tr g1 f2
        refine zdec (fun z1 => go p IL2 _ f ?_) (fun z1 => zdec (fun z2 => c_members (kI (c_members (kI (zdec (fun z3 => go (_, nI i) IL2 _ f ?_) (fun z3 => go p IL2 _ f ?_)))))) (fun z2 => go (_, nI i) IL2 _ f ?_))
        · unfold yton
          rw [if_pos zc, if_neg (y_asym z1).1, if_neg (y_asym z1).2]
        · unfold yton
          rw [if_pos zc, if_neg (by rw [z2]; exact fun q => (y_asym q).1 q), if_pos z2, if_pos z3]
        · unfold yton
          rw [if_pos zc, if_neg (by rw [z2]; exact fun q => (y_asym q).1 q), if_pos z2, if_neg z3]
        · unfold yton
          rw [if_pos zc, if_pos (y_tri z1 z2)]
      · have zc : ¬ (nI i) &&& (S 8) = 0 := by
          rw [decide_eq_false z] at cnd
          exact of_decide_eq_false cnd
        unfold yton
        rw [if_neg zc]
theorem m_tones {w : Int32} (hH : yOK H) (hM : yMH H IL) (hS : yMS 161 S IL) (h27 : IL.1 145 27 = -1) (hB : ySB H S) (hQ : ∀ IL', yfm ypw IL IL' → Q (zFx t, IL') (some (.int (r_tones H S w)))) : zcall xs (d + 7) 234 (zFx t, IL) [.ref 145, .int w] Q := by
  have k6 := hH.k6
  unfold r_tones at hQ
  obtain ⟨r, hr2, hr⟩ := y_small (x := S 8) (w := H.k) hB.read
  refine sX8_tones t _ IL (c_isIn (fun z => kI (z0 ?_)) (fun z z2 => kI (z1 ?_)))
  · have := hQ IL yfm_rf
    rw [if_neg (y_n01 z).1, if_neg (y_n01 z).2] at this
    exact this
  · rw [hM.cla, hS 8 (by decide)]
    refine l_mtones hH hB hM hS h27 hr hr2 (2 ^ H.k) 0 IL (-1, 0) _ (by omega) yfm_rf (fun IL' f => ?_)
    have := hQ IL' f
    rcases y_01 z z2 with e | e
    · rw [if_pos e] at this
      rw [if_pos e]
      exact this
    · rw [if_neg (by rw [e]; decide), if_pos e] at this
      rw [if_neg (by rw [e]; decide)]
      exact this
theorem c_misOut {i : Nat} (hi : i < 32) (hS : yMS 161 S IL) (h0 : bt (S 7) i = false → Q (zFx t, IL) (some (.int 0))) (h1 : bt (S 7) i = true → Q (zFx t, IL) (some (.int 1))) : zcall xs (d + 1) 203 (zFx t, IL) [.ref 145, .int (nI i)] Q := by
  refine sX8_isOut t (nI i) IL ?_
  rw [hS 7 (by decide)]
  exact zdec (fun g => h1 ((zb_1 _ i hi).mp g)) (fun g => h0 (y_bit (fun hb => g ((zb_1 _ i hi).mpr hb))))
theorem c_allOn (hfa : fa = 0 ∨ fa = 1) (hQ : ∀ fs : Int32, (∀ j, j < 6 → fa = (fs >>> (nI j &&& 31)) &&& 1) → Q (zFx t, IL) (some (.int fs))) : zcall xs (d + 1) 230 (zFx t, IL) [.int fa] Q := by
  have k0 : ∀ j, j < 6 → (0 : Int32) = ((0 : Int32) >>> (nI j &&& 31)) &&& 1 := by decide
  have k1 : ∀ j, j < 6 → (1 : Int32) = ((63 : Int32) >>> (nI j &&& 31)) &&& 1 := by decide
  rcases hfa with rfl | rfl
  · exact sX8_allOn t _ IL (zdec (fun _ => hQ 0 k0) (fun z => absurd rfl z))
  · exact sX8_allOn t _ IL (zdec (fun z => absurd z (by decide)) (fun _ => hQ 63 k1))
theorem l_musher {w : Int32} (hH : yOK H) (hB : ySB H S) (hfa : fa = 0 ∨ fa = 1) (hM : yMH H IL0) (hS : yMS 161 S IL0) (h27 : IL0.1 145 27 = -1) : ∀ (k i : Nat) (IL : zIL) (p : Int32 × Int32) (w6 : Value), i + k = H.n → yfm ypw IL0 IL → (∀ IL', yfm ypw IL0 IL' → Q (zFx t, IL') (some (.int (if w = 0 then (yfo (yus H fa S) k i p).2 else (yfo (yus H fa S) k i p).1)))) → gX8_usher xs (d + 6) Q 19 [.ref 145, .int fa, .int w, .int p.2, .int p.1, .int (nI i), w6] [] (zFx t, IL)
  | 0, i, IL, p, w6, hi, fr, hQ => by
    have n7 := hH.n7
    have hq := hQ IL fr
    unfold yfo at hq
    refine sX8_usher_19 t _ _ _ _ _ _ IL (zd_f (hM.pw fr).mem (by omega) (by omega) (zdec (fun z => ?_) (fun z => ?_)))
    · rw [if_pos z] at hq; exact hq
    · rw [if_neg z] at hq; exact hq
  | k + 1, i, IL, p, w6, hi, fr, hQ => by
    have n7 := hH.n7
    have k6 := hH.k6
    have hMI := hM.pw fr
    have hSI := hS.pw fr
    unfold yfo at hQ
    have go : ∀ (p' : Int32 × Int32) (IL' : zIL) (w6 : Value), yfm ypw IL0 IL' → p' = yus H fa S i p → gX8_usher xs (d + 6) Q 19 [.ref 145, .int fa, .int w, .int p'.2, .int p'.1, .int (nI i + 1), w6] [] (zFx t, IL') := fun p' IL' w6 f e => by
      rw [nI_1]
      exact l_musher hH hB hfa hM hS h27 k (i + 1) IL' p' w6 (by omega) f (by rw [e]; exact hQ)
    refine sX8_usher_19 t _ _ _ _ _ _ IL (zd_t hMI.mem (by omega) (by omega) ?_)
    refine c_misOut (by omega) hSI (fun hb => kI (z0 (go p IL _ fr (by unfold yus; rw [hb]; rfl)))) (fun hb => kI (z1 ?_))
    refine c_fill hSI (fun IL1 f1 s1 => kV (zix_n (by omega) (by omega) (c_greater (kI (zix_n (by omega) (by omega) (c_allOn hfa (fun fs hfs => kI ?_)))))))
    rw [ycl (by omega), s1 i (by omega), ygr_max]
    have f2 : yfm ypw IL0 (zwi IL1 162 i (zmax 0 (S i - 1))) := yfm_tr fr (yfm_tr (yfm_fill f1) (yfm_wi rfl))
    have s2 : yMS 162 (yS' S i (zmax 0 (S i - 1))) (zwi IL1 162 i (zmax 0 (S i - 1))) := fun j hj => by
      unfold yS'
      rw [zwi_at]
      by_cases e : j = i
      · rw [if_pos e, if_pos e]
      · rw [if_neg e, if_neg e]; exact s1 j hj
    refine c_carriedBy (r := S 8) (f := fun _ => fa) hH (ySB_S' hB (by omega) (zmax_1 (hB.no i (by omega))) hb) (hM.pw f2) (Or.inl rfl) (y_h27 h27 f2) (hS.pw f2 8 (by decide)) (fun j hj => hfs j (by omega)) s2 (fun IL3 f3 => kI ?_)
    have f := yfm_tr f2 f3
    refine zdec (fun z => go (_, nI i) IL3 _ f ?_) (fun z => go p IL3 _ f ?_)
    · unfold yus; rw [hb, if_pos rfl, if_pos z]
    · unfold yus; rw [hb, if_pos rfl, if_neg z]
theorem m_usher {w : Int32} (hH : yOK H) (hM : yMH H IL) (hS : yMS 161 S IL) (h27 : IL.1 145 27 = -1) (hB : ySB H S) (hfa : fa = 0 ∨ fa = 1) (hQ : ∀ IL', yfm ypw IL IL' → Q (zFx t, IL') (some (.int (r_usher H S fa w)))) : zcall xs (d + 7) 249 (zFx t, IL) [.ref 145, .int fa, .int w] Q := by
  unfold r_usher at hQ
  refine sX8_usher t _ _ IL (c_isIn (fun z => kI (z0 ?_)) (fun z z2 => kI (z1 ?_)))
  · have := hQ IL yfm_rf
    rw [if_neg (y_n01 z).1, if_neg (y_n01 z).2] at this
    exact this
  · refine l_musher hH hB hfa hM hS h27 H.n 0 IL (-1, -1) _ (by omega) yfm_rf (fun IL' f => ?_)
    have := hQ IL' f
    rcases y_01 z z2 with e | e
    · rw [if_pos e] at this
      rw [if_pos e]
      exact this
    · rw [if_neg (by rw [e]; decide), if_pos e] at this
      rw [if_neg (by rw [e]; decide)]
      exact this
theorem c_mareTwo {x y : Int32} (hH : yOK H) (hM : yMH H IL) (hS : yMS 161 S IL) (h0 : (∀ v, ytw H S x y v = -1) → Q (zFx t, IL) (some (.int 0))) (h1 : ∀ a b, a < H.n → b < H.n → x = nI a → y = nI b → a ≠ b → bt (S 7) a = true → bt (S 7) b = true → Q (zFx t, IL) (some (.int 1))) : zcall xs (d + 3) 244 (zFx t, IL) [.ref 145, .int x, .int y] Q := by
  have n7 := hH.n7
  have hx : ∀ v : Int32, (if x = y then (-1 : Int32) else v) = -1 ∨ ¬ x = y := fun v => by
    by_cases e : x = y
    · left; rw [if_pos e]
    · right; exact e
  refine sX8_areTwoOut t x y IL (c_misMember hH hM (fun h => kI (z0 (h0 (fun v => ?_)))) (fun a ha ea hxa => kI (z1 ?_)))
  · unfold ytw
    by_cases e : x = y
    · rw [if_pos e]
    · rw [if_neg e]; exact yisM_n h
  refine c_misMember hH hM (fun h => kI (z0 (h0 (fun v => ?_)))) (fun b hb eb hyb => kI (z1 ?_))
  · unfold ytw
    by_cases e : x = y
    · rw [if_pos e]
    · rw [if_neg e, yisM_y hxa, yisM_n h]
      split <;> rfl
  refine zdec (fun z => h0 (fun v => by unfold ytw; rw [if_pos z])) (fun z => ?_)
  subst ea
  subst eb
  refine c_misOut (by omega) hS (fun oa => kI (z0 (h0 (fun v => ?_)))) (fun oa => kI (z1 ?_))
  · unfold ytw
    rw [if_neg z, yisM_y hxa, ycl (by omega), oa]
    rfl
  refine c_misOut (by omega) hS (fun ob => kI (z0 (h0 (fun v => ?_)))) (fun ob => kI (z1 (h1 a b ha hb rfl rfl (fun e => z (by rw [e])) oa ob)))
  unfold ytw
  rw [if_neg z, yisM_y hxa, ycl (by omega), oa, if_pos rfl, yisM_y hyb, ycl (by omega), ob]
  rfl
def ysq (p : Int32 × Int32 × Int32) : Prop := p.2.1 = -1 ∨ ∃ a, a < 7 ∧ p.2.1 = nI a
theorem ysq_1 {a b : Nat} {p : Int32 × Int32 × Int32} (ha : a < 7) (h : ysq p) : ysq (ysw1 H fa S a b p) := by
  unfold ysw1
  split
  · split
    · exact Or.inr ⟨a, ha, rfl⟩
    · exact h
  · exact h
theorem ysq_neg {p : Int32 × Int32 × Int32} (h : ysq p) : p.2.1 < 0 ↔ p.2.1 = -1 := by
  constructor
  · intro z
    rcases h with h | ⟨a, ha, e⟩
    · exact h
    · rw [e] at z
      exact absurd z (nI_pos (by omega))
  · intro e
    rw [e]
    decide
theorem l_mswap48 {w : Int32} {a : Nat} (hH : yOK H) (hB : ySB H S) (hfa : fa = 0 ∨ fa = 1) (hM : yMH H IL0) (hS : yMS 161 S IL0) (h27 : IL0.1 145 27 = -1) (ha : a < H.n) : ∀ (k i : Nat) (IL : zIL) (p : Int32 × Int32 × Int32) (w8 : Value), i + k = H.n → a < i → yfm ypw IL0 IL → (∀ IL' w7 w8, yfm ypw IL0 IL' → gX8_swap xs (d + 6) Q 33 [.ref 145, .int fa, .int w, .int (yfo (ysw1 H fa S a) k i p).1, .int (yfo (ysw1 H fa S a) k i p).2.1, .int (yfo (ysw1 H fa S a) k i p).2.2, .int (nI (a + 1)), w7, w8] [] (zFx t, IL')) → gX8_swap xs (d + 6) Q 48 [.ref 145, .int fa, .int w, .int p.1, .int p.2.1, .int p.2.2, .int (nI a), .int (nI i), w8] [] (zFx t, IL)
  | 0, i, IL, p, w8, hi, hai, fr, hQ => by
    have n7 := hH.n7
    have hq := hQ IL (.int (nI i)) w8 fr
    unfold yfo at hq
    refine sX8_swap_48 t _ _ _ _ _ _ _ _ IL (zd_f (hM.pw fr).mem (by omega) (by omega) ?_)
    rw [nI_1]
    exact hq
  | k + 1, i, IL, p, w8, hi, hai, fr, hQ => by
    have n7 := hH.n7
    have k6 := hH.k6
    have hMI := hM.pw fr
    have hSI := hS.pw fr
    unfold yfo at hQ
    have go : ∀ (p' : Int32 × Int32 × Int32) (IL' : zIL) (w8 : Value), yfm ypw IL0 IL' → p' = ysw1 H fa S a i p → gX8_swap xs (d + 6) Q 48 [.ref 145, .int fa, .int w, .int p'.1, .int p'.2.1, .int p'.2.2, .int (nI a), .int (nI i + 1), w8] [] (zFx t, IL') := fun p' IL' w8 f e => by
      rw [nI_1]
      exact l_mswap48 hH hB hfa hM hS h27 ha k (i + 1) IL' p' w8 (by omega) (by omega) f (by rw [e]; exact hQ)
    refine sX8_swap_48 t _ _ _ _ _ _ _ _ IL (zd_t hMI.mem (by omega) (by omega) ?_)
    refine c_mareTwo hH hMI hSI (fun h => kI (z0 (go p IL _ fr ?_))) (fun a' b' ha' hb' e1 e2 ne oa ob => kI (z1 ?_))
    · unfold ysw1
      rw [ytw_n n7 ha (by omega) (by omega) h]
      rfl
    · have ea : a = a' := (nI_eq (by omega) (by omega)).mp e1
      have eb : i = b' := (nI_eq (by omega) (by omega)).mp e2
      subst ea
      subst eb
      refine c_fill hSI (fun IL1 f1 s1 => kV (zix_n (by omega) (by omega) (zix_n (by omega) (by omega) (zix_n (by omega) (by omega) (zix_n (by omega) (by omega) (c_allOn hfa (fun fs hfs => kI ?_)))))))
      have hS1 := hSI.pw (yfm_fill f1)
      rw [ycl (by omega), ycl (by omega), zwi_ne (show 161 ≠ 162 by decide), hS1 a (by omega), hS1 i (by omega)]
      have f2 : yfm ypw IL0 (zwi (zwi IL1 162 a (S i)) 162 i (S a)) := yfm_tr fr (yfm_tr (yfm_fill f1) (yfm_tr (yfm_wi rfl) (yfm_wi rfl)))
      have s2 : yMS 162 (yS' (yS' S a (S i)) i (S a)) (zwi (zwi IL1 162 a (S i)) 162 i (S a)) := fun j hj => by
        unfold yS'
        rw [zwi_at, zwi_at]
        by_cases e : j = i
        · rw [if_pos e, if_pos e]
        · rw [if_neg e, if_neg e]
          by_cases e' : j = a
          · rw [if_pos e', if_pos e']
          · rw [if_neg e', if_neg e']; exact s1 j hj
      have b1 : ySB H (yS' (yS' S a (S i)) i (S a)) := ySB_S' (ySB_S' hB (by omega) (hB.no i (by omega)) oa) (by omega) (hB.no a (by omega)) (by unfold yS'; rw [if_neg (by omega)]; exact ob)
      refine c_carriedBy (r := S 8) (f := fun _ => fa) hH b1 (hM.pw f2) (Or.inl rfl) (y_h27 h27 f2) (hS.pw f2 8 (by decide)) (fun j hj => hfs j (by omega)) s2 (fun IL3 f3 => kI ?_)
      have f := yfm_tr f2 f3
      refine zdec (fun z => go (_, nI a, nI i) IL3 _ f ?_) (fun z => go p IL3 _ f ?_)
      · unfold ysw1; rw [oa, ob, Bool.and_self, if_pos rfl, if_pos z]
      · unfold ysw1; rw [oa, ob, Bool.and_self, if_pos rfl, if_neg z]
theorem l_mswap {w : Int32} (hH : yOK H) (hB : ySB H S) (hfa : fa = 0 ∨ fa = 1) (hM : yMH H IL0) (hS : yMS 161 S IL0) (h27 : IL0.1 145 27 = -1) (hw0 : ¬ w < 0) (hw2 : ¬ 2 < w) : ∀ (k i : Nat) (IL : zIL) (p : Int32 × Int32 × Int32) (w7 w8 : Value), i + k = H.n → ysq p → yfm ypw IL0 IL → (∀ IL', yfm ypw IL0 IL' → Q (zFx t, IL') (some (.int (y_swp (yfo (ysw H fa S) k i p) w)))) → gX8_swap xs (d + 6) Q 33 [.ref 145, .int fa, .int w, .int p.1, .int p.2.1, .int p.2.2, .int (nI i), w7, w8] [] (zFx t, IL)
  | 0, i, IL, p, w7, w8, hi, hp, fr, hQ => by
    have n7 := hH.n7
    have hq := hQ IL fr
    unfold yfo y_swp at hq
    refine sX8_swap_33 t _ _ _ _ _ _ _ _ IL (zd_f (hM.pw fr).mem (by omega) (by omega) ?_)
    refine zdec (fun z => ?_) (fun z => ?_)
    · rw [if_pos ((ysq_neg hp).mp z)] at hq; exact hq
    rw [if_neg (fun q => z ((ysq_neg hp).mpr q))] at hq
    refine zdec (fun z => ?_) (fun z => ?_)
    · rw [if_pos z] at hq; exact hq
    rw [if_neg z] at hq
    refine zdec (fun z => ?_) (fun z1 => ?_)
    · rw [if_pos z] at hq; exact hq
    rw [if_neg z1] at hq
    have w2 : w = 2 := by
      apply Int32.toInt_inj.mp
      have a0 : ¬ w.toInt < (0 : Int32).toInt := fun q => hw0 (Int32.lt_iff_toInt_lt.mpr q)
      have a1 : ¬ (2 : Int32).toInt < w.toInt := fun q => hw2 (Int32.lt_iff_toInt_lt.mpr q)
      have a2 : ¬ w.toInt = (0 : Int32).toInt := fun q => z (Int32.toInt_inj.mp q)
      have a3 : ¬ w.toInt = (1 : Int32).toInt := fun q => z1 (Int32.toInt_inj.mp q)
      have b0 : (0 : Int32).toInt = 0 := by decide
      have b1 : (1 : Int32).toInt = 1 := by decide
      have b2 : (2 : Int32).toInt = 2 := by decide
      rw [b0] at a0 a2
      rw [b1] at a3
      rw [b2] at a1 ⊢
      omega
    rw [if_pos w2] at hq
    exact hq
  | k + 1, i, IL, p, w7, w8, hi, hp, fr, hQ => by
    have n7 := hH.n7
    unfold yfo at hQ
    refine sX8_swap_33 t _ _ _ _ _ _ _ _ IL (zd_t (hM.pw fr).mem (by omega) (by omega) ?_)
    rw [nI_1]
    refine l_mswap48 hH hB hfa hM hS h27 (by omega) (H.n - (i + 1)) (i + 1) IL p w8 (by omega) (by omega) fr (fun IL' w7 w8 f => ?_)
    refine l_mswap hH hB hfa hM hS h27 hw0 hw2 k (i + 1) IL' _ w7 w8 (by omega) ?_ f hQ
    exact yfo_inv (fun _ q => ysq q) _ _ p hp (fun j b _ _ hb => ysq_1 (by omega) hb)
theorem m_swap {w : Int32} (hH : yOK H) (hM : yMH H IL) (hS : yMS 161 S IL) (h27 : IL.1 145 27 = -1) (hB : ySB H S) (hfa : fa = 0 ∨ fa = 1) (hQ : ∀ IL', yfm ypw IL IL' → Q (zFx t, IL') (some (.int (r_swap H S fa w)))) : zcall xs (d + 7) 257 (zFx t, IL) [.ref 145, .int fa, .int w] Q := by
  have k6 := hH.k6
  unfold r_swap at hQ
  refine sX8_swap t _ _ IL (c_isIn (fun z => kI (z0 ?_)) (fun z z2 => kI (z1 ?_)))
  · have := hQ IL yfm_rf
    unfold y_swp at this
    have ne : ¬ w = 0 ∧ ¬ w = 1 ∧ ¬ w = 2 := ⟨fun e => z (by rw [e]; exact ⟨by decide, by decide⟩), fun e => z (by rw [e]; exact ⟨by decide, by decide⟩), fun e => z (by rw [e]; exact ⟨by decide, by decide⟩)⟩
    rw [if_neg ne.1, if_neg ne.2.1, if_neg ne.2.2] at this
    revert this
    split <;> exact id
  · refine c_fill hS (fun IL1 f1 s1 => kV (c_allOn hfa (fun fs hfs => kI ?_)))
    have g1 := yfm_fill f1
    refine c_carriedBy (r := S 8) (f := fun _ => fa) hH hB (hM.pw g1) (Or.inl rfl) (y_h27 h27 g1) (hS.pw g1 8 (by decide)) (fun j hj => hfs j (by omega)) s1 (fun IL2 f2 => kI ?_)
    exact l_mswap hH hB hfa hM hS h27 z z2 H.n 0 IL2 (_, -1, -1) _ _ (by omega) (Or.inl rfl) (yfm_tr g1 f2) hQ
end MTHINK2
