/-! drops: the sets, and the model's side -/
theorem yco_up {H : yH} {S : Nat → Int32} {q fa : Int32} {i : Nat} : ∀ (k j a : Nat), a ≤ yfo (yco1 H S q fa i) k j a
  | 0, _, _ => Nat.le_refl _
  | k + 1, j, a => by
    unfold yfo
    refine Nat.le_trans ?_ (yco_up k (j + 1) _)
    unfold yco1
    omega
theorem yen1_b {A : Nat} (h : 1000000 ≤ A) : yen1 A = -1 := by unfold yen1; rw [if_neg (by omega)]
theorem yen1_s {A : Nat} (h : A < 1000000) : yen1 A = nI A := by unfold yen1; rw [if_pos h]
theorem yen1_n {A : Nat} (h : A < 1000000) : ¬ yen1 A = -1 := by
  rw [yen1_s h]
  intro z
  exact absurd (show (nI A) < 0 by rw [z]; decide) (nI_pos (by omega))
theorem y_le3 {A a : Nat} (hA : A ≤ 1000000) (ha : a ≤ 100000000) : yle (nI A) (nI a) = nI (min A a) := by
  unfold yle
  split
  · have := (nI_ltI (a := A) (b := a) (by omega) (by omega)).mp ‹_›
    rw [Nat.min_eq_left (by omega)]
  · have h : ¬ A < a := fun z => absurd ((nI_ltI (by omega) (by omega)).mpr z) ‹_›
    rw [Nat.min_eq_right (by omega)]
section DROPS2
variable {xs : List Int32} {d : Nat} {Q : zQ} {t : Bool} {IL IL0 : zIL} {H : yH} {fa q : Int32} {S : Nat → Int32}
theorem l_dw {i : Nat} (hH : yOK H) (hC : yCH t H IL) (hS : yCS 22 S IL) (hB : ySB H S) (hs : ∀ j, j < 32 → bt (nI i) j = true → bt (S 7) j = true) (hj : ∀ j, j < H.n → bt (S 7) j = true → ytS H S q fa j ≤ 99 ∧ IL.1 137 j = yen1 (ytS H S q fa j) ∧ IL.1 138 j = yen1 (ytB H S q fa j)) : ∀ (k m a : Nat), m + k = H.n → a ≤ 99 * m → Q (zFx t, IL) (some (.int (yen1 (yfo (yco1 H S q fa i) k m a)))) → gX7_dropsWith xs (d + 1) Q 42 [.ref 0, .int (nI i), .int (nI a), .int (nI m)] [] (zFx t, IL)
  | 0, m, a, hm, ha, hQ => by
    have n7 := hH.n7
    unfold yfo at hQ
    rw [yen1_s (by omega)] at hQ
    exact sX7_dropsWith_42 t _ _ _ IL (zd_f hC.mem (by omega) (by omega) hQ)
  | k + 1, m, a, hm, ha, hQ => by
    have n7 := hH.n7
    unfold yfo at hQ
    have go : ∀ (b : Nat), a + b = yco1 H S q fa i m a → b ≤ 99 → gX7_dropsWith xs (d + 1) Q 42 [.ref 0, .int (nI i), .int (nI a + nI b), .int (nI m + 1)] [] (zFx t, IL) := fun b e hb => by
      rw [nI_1, nI_add]
      exact l_dw hH hC hS hB hs hj k (m + 1) (a + b) (by omega) (by omega) (by rw [e]; exact hQ)
    refine sX7_dropsWith_42 t _ _ _ IL (zd_t hC.mem (by omega) (by omega) (c_has (by omega) (fun hb => kI (z0 ?_)) (fun hb => kI (z1 (zix_n (by omega) (by omega) ?_)))))
    · rw [bt_nI (by omega)] at hb
      rw [hS.out]
      refine c_has (by omega) (fun ho => kI (z0 ?_)) (fun ho => kI (z1 (zix_n (by omega) (by omega) ?_)))
      · have := go 0 (by unfold yco1 ytS; rw [hb, ho]; rfl) (by omega)
        rw [show nI 0 = 0 from rfl, Int32.add_zero] at this
        exact this
      · obtain ⟨h1, h2, _⟩ := hj m (by omega) ho
        rw [ycl (by omega), h2, yen1_s (by omega)]
        exact go _ (by unfold yco1; rw [hb]; rfl) h1
    · have ho := hs m (by omega) hb
      rw [bt_nI (by omega)] at hb
      obtain ⟨_, _, h3⟩ := hj m (by omega) ho
      rw [ycl (by omega), h3]
      rcases ytB_le hB (m := m) (by omega) (q := q) (fa := fa) with h | h
      · refine zdec (fun _ => ?_) (fun z => absurd (by rw [h]; rfl) z)
        have := yco_up (H := H) (S := S) (q := q) (fa := fa) (i := i) k (m + 1) (yco1 H S q fa i m a)
        have e : yco1 H S q fa i m a = a + 1000000 := by unfold yco1; rw [hb, if_pos rfl, h]
        rw [yen1_b (by omega)] at hQ
        exact hQ
      · refine zdec (fun z => absurd z (yen1_n (by omega))) (fun _ => zix_n (by omega) (by omega) ?_)
        rw [yen1_s (by omega)]
        exact go _ (by unfold yco1; rw [hb]; rfl) h
theorem c_dropsWith {i : Nat} (hH : yOK H) (hC : yCH t H IL) (hS : yCS 22 S IL) (hB : ySB H S) (hs : ∀ j, j < 32 → bt (nI i) j = true → bt (S 7) j = true) (hj : ∀ j, j < H.n → bt (S 7) j = true → ytS H S q fa j ≤ 99 ∧ IL.1 137 j = yen1 (ytS H S q fa j) ∧ IL.1 138 j = yen1 (ytB H S q fa j)) (hQ : Q (zFx t, IL) (some (.int (if yen H (nI i ||| yin1 H S) then yen1 (yco H S q fa i) else -1)))) : zcall xs (d + 3) 150 (zFx t, IL) [.ref 0, .int (nI i)] Q := by
  refine sX7_dropsWith t _ IL (sX4_everyone t t IL (kI ?_))
  rw [hC.mem, hS.out]
  refine c_vt hH hC (kI ?_)
  rw [hC.quota]
  refine zdec (fun z => ?_) (fun z => ?_)
  · rw [yen_i (show yvt H (nI i ||| yin1 H S) < H.quota from z)] at hQ
    exact hQ
  · rw [yen_j (show ¬ yvt H (nI i ||| yin1 H S) < H.quota from z)] at hQ
    exact l_dw hH hC hS hB hs hj H.n 0 0 (by omega) (by omega) hQ
theorem l_drops {x1 x2 : Int32} (hH : yOK H) (hC : yCH t H IL) (hS : yCS 22 S IL) (hB : ySB H S) (hj : ∀ j, j < H.n → bt (S 7) j = true → ytS H S q fa j ≤ 99 ∧ IL.1 137 j = yen1 (ytS H S q fa j) ∧ IL.1 138 j = yen1 (ytB H S q fa j)) : ∀ (k i A : Nat) (w5 : Value), i + k = 2 ^ H.n → A ≤ 1000000 → Q (zFx t, IL) (some (.int (yen1 (yfo (ymf (yPc H S) (yco H S q fa)) k i A)))) → gX7_drops xs (d + 3) Q 32 [.ref 0, .int x1, .int x2, .int (yen1 A), .int (nI i), w5] [] (zFx t, IL)
  | 0, i, A, w5, hi, hA, hQ => by
    have p := y_pw7 hH.n7
    exact sX7_drops_32 t _ _ _ _ _ IL (zd_f (by rw [hC.mem, y_pow _ hH.n7]) (by omega) (by omega) hQ)
  | k + 1, i, A, w5, hi, hA, hQ => by
    have p := y_pw7 hH.n7
    unfold yfo at hQ
    have go : ∀ (B : Nat) (v : Int32) (w5 : Value), v = yen1 B → B = ymf (yPc H S) (yco H S q fa) i A → gX7_drops xs (d + 3) Q 32 [.ref 0, .int x1, .int x2, .int v, .int (nI i + 1), w5] [] (zFx t, IL) := fun B v w5 e1 e2 => by
      have hB2 : B ≤ 1000000 := by
        rw [e2]
        unfold ymf
        split
        · exact Nat.le_trans (Nat.min_le_left _ _) hA
        · exact hA
      rw [nI_1, e1]
      exact l_drops hH hC hS hB hj k (i + 1) B w5 (by omega) hB2 (by rw [e2]; exact hQ)
    refine sX7_drops_32 t _ _ _ _ _ IL (zd_t (by rw [hC.mem, y_pow _ hH.n7]) (by omega) (by omega) ?_)
    rw [hS.out]
    refine zdec (fun z => c_dropsWith (q := q) (fa := fa) hH hC hS hB (y_sub.mp z) hj (kI ?_)) (fun z => go A _ _ rfl (by unfold ymf yPc; rw [decide_eq_false z]; rfl))
    cases e : yen H (nI i ||| yin1 H S)
    · exact go A _ _ rfl (by unfold ymf yPc; rw [e, Bool.and_false]; rfl)
    · have eP : yPc H S i = true := by unfold yPc; rw [decide_eq_true z, e]; rfl
      have em : ymf (yPc H S) (yco H S q fa) i A = min A (yco H S q fa i) := by unfold ymf; rw [if_pos eP]
      rw [if_pos rfl]
      rcases Nat.lt_or_ge (yco H S q fa i) 1000000 with h | h
      · refine zdec (fun w => absurd w (yen1_n h)) (fun _ => ?_)
        rcases Nat.lt_or_ge A 1000000 with g | g
        · refine zdec (fun w => absurd w (yen1_n g)) (fun _ => ?_)
          rw [yen1_s h, yen1_s g]
          refine zdec (fun w => go (yco H S q fa i) _ _ (yen1_s h).symm ?_) (fun w => go A _ _ (yen1_s g).symm ?_)
          · have := (nI_ltI (by omega) (by omega)).mp w
            rw [em, Nat.min_eq_right (by omega)]
          · have : ¬ yco H S q fa i < A := fun q => w ((nI_ltI (by omega) (by omega)).mpr q)
            rw [em, Nat.min_eq_left (by omega)]
        · refine zdec (fun _ => go (yco H S q fa i) _ _ rfl ?_) (fun w => absurd (yen1_b g) w)
          rw [em, Nat.min_eq_right (by omega)]
      · refine zdec (fun _ => go A _ _ rfl ?_) (fun w => absurd (yen1_b h) w)
        rw [em, Nat.min_eq_left (by omega)]
def r_drops (H : yH) (S : Nat → Int32) (x fa : Int32) : Int32 := yun H S x (yen1 (yAm H S (H.sh x.toNatClampNeg) fa))
theorem c_drops {x : Int32} (hH : yOK H) (hC : yCH t H IL) (hS : yCS 22 S IL) (hB : ySB H S) (hfa : fa = 0 ∨ fa = 1) (hQ : ∀ IL', zfr (ydf t) IL IL' → Q (zFx t, IL') (some (.int (r_drops H S x fa)))) : zcall xs (d + 6) 114 (zFx t, IL) [.ref 0, .int x, .int fa] Q := by
  have k6 := hH.k6
  unfold r_drops at hQ
  refine sX7_drops t _ _ IL (c_isUnread hH hC hS (fun h => kI (z0 ?_)) (fun c hc e hb h => kI (z1 ?_)))
  · have := hQ IL zfr_rf
    rw [h] at this
    exact this
  · subst e
    refine zix_n (by omega) (by omega) ?_
    rw [h, ycl (by omega)] at hQ
    rw [ycl (by omega), hC.sh c hc]
    refine sX7_countDrops t _ _ IL (l_cd2 (q := H.sh c) hH hC hS hB hfa (fun IL' f hm => kI (z0 ?_)) (fun IL' f hj => kI (z1 ?_)) H.n 0 IL _ _ _ (by omega) zfr_rf (fun j hj => absurd hj (Nat.not_lt_zero j)))
    · obtain ⟨m, hm, hs⟩ := hm
      have := hQ IL' f
      rw [yAm_none hH hB hm hs] at this
      exact this
    · refine l_drops (q := H.sh c) (fa := fa) hH (hC.df f) (hS.df f) hB hj (2 ^ H.n) 0 1000000 _ (by omega) (by omega) ?_
      have := hQ IL' f
      rw [← yAc_Am hH hB] at this
      exact this
/-- what layTills leaves -/
def ypd (c j : Nat) : Bool := ypw c j || c == 167 || c == 168
theorem ypd_ms : ∀ c j, yms c j = false → ypd c j = false := by
  intro c j h
  unfold yms at h
  unfold ypd ypw
  simp only [Bool.or_eq_false_iff, Bool.and_eq_false_iff, beq_eq_false_iff_ne] at h ⊢
  omega
theorem yfm_pd {A B : zIL} (h : yfm ypd A B) : yfm yms A B := yfm_le h ypd_ms
theorem yfm_pwd {A B : zIL} (h : yfm ypw A B) : yfm ypd A B := yfm_le h (fun c j z => by unfold ypd at z; simp only [Bool.or_eq_false_iff] at z; exact z.1.1)
theorem yMH.pd {A B : zIL} (h : yMH H A) (f : yfm ypd A B) : yMH H B := h.ms (yfm_pd f)
theorem yMS.pd {A B : zIL} (h : yMS 161 S A) (f : yfm ypd A B) : yMS 161 S B := fun j hj => by rw [f.1 161 j rfl]; exact h j hj
theorem l_lt91 {m c : Nat} (hH : yOK H) (hM : yMH H IL0) (hS : yMS 161 S IL0) (h27 : IL0.1 145 27 = -1) (hB : ySB H S) (hm : m < H.n) (hc : c < H.k) (hQ1 : ∀ IL' w5 w6, yfm ypd IL0 IL' → IL'.1 167 m = nI (yfN (ypS H S m (H.sh c) fa) (yNo S m + 1) 0) → IL'.1 168 m = nI (yfN (ypB H S m (H.sh c) fa) (yNo S m + 1) 0) → (∀ j, j ≠ m → IL'.1 167 j = IL0.1 167 j ∧ IL'.1 168 j = IL0.1 168 j) → gX8_layTills xs (d + 3) Q 14 [.ref 145, .int (nI c), .int fa, .int (yre S), .int (nI (m + 1)), w5, w6] [] (zFx t, IL')) : ∀ (k e : Nat) (IL : zIL) (x : Int32) (w6 : Value), k + e = yNo S m + 1 → x = nI k - 1 → yfm ypd IL0 IL → IL.1 167 m = nI (yfN (ypS H S m (H.sh c) fa) e k) → IL.1 168 m = nI (yfN (ypB H S m (H.sh c) fa) e k) → (∀ j, j ≠ m → IL.1 167 j = IL0.1 167 j ∧ IL.1 168 j = IL0.1 168 j) → gX8_layTills xs (d + 3) Q 91 [.ref 145, .int (nI c), .int fa, .int (yre S), .int (nI m), .int x, w6] [] (zFx t, IL)
  | 0, e, IL, x, w6, he, hx, fr, i1, i2, hj => by
    have n7 := hH.n7
    refine sX8_layTills_91 t _ _ _ _ _ _ IL (zdec (fun _ => ?_) (fun z => absurd (by rw [hx]; decide) z))
    rw [nI_1]
    have ee : e = yNo S m + 1 := by omega
    subst ee
    exact hQ1 IL _ _ fr i1 i2 hj
  | k + 1, e, IL, x, w6, he, hx, fr, i1, i2, hj => by
    have n7 := hH.n7
    have k6 := hH.k6
    have nl := yNo_le hB (m := m) (by omega)
    have hMI := hM.pd fr
    have hSI := hS.pd fr
    rw [nI_pred] at hx
    subst hx
    have e23 : IL.1 161 m - nI k = nI (yNo S m - k) := by
      rw [hSI m (by omega), nl.2]
      obtain ⟨r, hr⟩ : ∃ r, yNo S m = r + k := ⟨yNo S m - k, by omega⟩
      rw [hr, ← nI_add, Int32.add_sub_cancel, show r + k - k = r by omega]
    refine sX8_layTills_91 t _ _ _ _ _ _ IL (zdec (fun z => absurd z (nI_pos (by omega))) (fun _ => zix_n (by omega) (by omega) (zix_n (by omega) (by omega) (zix_n (by omega) (by omega) ?_))))
    rw [ycl (by omega), ycl (by omega), e23, hMI.sh c hc]
    refine c_mwindOf (ss := H.ss) (mi := H.mi m) (vo := H.vo m) hH.ss hH.bk (by omega) hMI.form hMI.len hMI.ss (hMI.vo m hm) (by rw [fr.1 145 27 rfl, h27, if_pos (by decide), hMI.mi m hm]) (fun IL2 f2 => kI (c_greater (kI ?_)))
    have g : yfm ypd IL0 IL2 := yfm_tr fr (yfm_zfr f2 (fun c hc j => by
      simp only [List.mem_cons, List.not_mem_nil, or_false] at hc
      rcases hc with rfl | rfl <;> rfl))
    have ev : ygr 0 (nI (yNo S m - k) + ywi (zwv H.ss (H.sh c) (H.mi m) (H.vo m) (nI (yNo S m - k)) fa (yre S))) = ybv H S m (H.sh c) fa (nI (yNo S m - k)) := y_wind (yin_nI (by omega))
    rw [ev, (hM.pd g).cock]
    have o1 : IL2.1 167 = IL.1 167 := f2.1 _ (by decide)
    have o2 : IL2.1 168 = IL.1 168 := f2.1 _ (by decide)
    have jA : ∀ j, j ≠ m → IL2.1 167 j = IL0.1 167 j ∧ IL2.1 168 j = IL0.1 168 j := fun j h => by rw [o1, o2]; exact hj j h
    have on : ∀ (IL' : zIL) (w6 : Value), yfm ypd IL0 IL' → IL'.1 167 m = nI (yfN (ypS H S m (H.sh c) fa) (e + 1) k) → IL'.1 168 m = nI (yfN (ypB H S m (H.sh c) fa) (e + 1) k) → (∀ j, j ≠ m → IL'.1 167 j = IL0.1 167 j ∧ IL'.1 168 j = IL0.1 168 j) → gX8_layTills xs (d + 3) Q 91 [.ref 145, .int (nI c), .int fa, .int (yre S), .int (nI m), .int (nI k + (-1)), w6] [] (zFx t, IL') := fun IL' w6 f a1 a2 a3 =>
      l_lt91 hH hM hS h27 hB hm hc hQ1 k (e + 1) IL' _ w6 (by omega) (Int32.sub_eq_add_neg _ _).symm f a1 a2 a3
    have sS : ∀ b, decide (ybv H S m (H.sh c) fa (nI (yNo S m - k)) < H.cock) = b → yfN (ypS H S m (H.sh c) fa) (e + 1) k = if b then k else yfN (ypS H S m (H.sh c) fa) e (k + 1) := fun b h => by
      rw [yfN, show ypS H S m (H.sh c) fa k = b from h]
    have sB : ∀ b, decide (2 * ybv H S m (H.sh c) fa (nI (yNo S m - k)) < H.cock) = b → yfN (ypB H S m (H.sh c) fa) (e + 1) k = if b then k else yfN (ypB H S m (H.sh c) fa) e (k + 1) := fun b h => by
      rw [yfN, show ypB H S m (H.sh c) fa k = b from h]
    have wc : ∀ v, (zwi IL2 167 m v).1 145 44 = H.cock := fun v => by rw [zwi_ne (by decide)]; exact (hM.pd g).cock
    refine zdec (fun z1 => zix_n (by omega) (by omega) ?_) (fun z1 => zdec (fun z => absurd z z1) (fun _ => ?_))
    · rw [wc]
      have jB : ∀ j, j ≠ m → (zwi IL2 167 m (nI k)).1 167 j = IL0.1 167 j ∧ (zwi IL2 167 m (nI k)).1 168 j = IL0.1 168 j := fun j h => by
        rw [zwi_at, if_neg h, zwi_ne (show 168 ≠ 167 by decide)]
        exact jA j h
      refine zdec (fun _ => zdec (fun z2 => zix_n (by omega) (by omega) ?_) (fun z2 => ?_)) (fun z => absurd z1 z)
      · refine on _ _ (yfm_tr g (yfm_tr (yfm_wi rfl) (yfm_wi rfl))) (by rw [zwi_ne (by decide), zwi_at, if_pos rfl, sS true (decide_eq_true z1)]; rfl) (by rw [zwi_at, if_pos rfl, sB true (decide_eq_true z2)]; rfl) (fun j h => ?_)
        rw [zwi_ne (show 167 ≠ 168 by decide), zwi_at (c := 168), if_neg h]
        exact jB j h
      · refine on _ _ (yfm_tr g (yfm_wi rfl)) (by rw [zwi_at, if_pos rfl, sS true (decide_eq_true z1)]; rfl) (by rw [zwi_ne (by decide), o2, i2, sB false (decide_eq_false z2)]; rfl) jB
    · have z2 : ¬ 2 * ybv H S m (H.sh c) fa (nI (yNo S m - k)) < H.cock := fun z => z1 (of_decide_eq_true (yB_S hH hB (by omega) (decide_eq_true z)))
      exact on _ _ g (by rw [o1, i1, sS false (decide_eq_false z1)]; rfl) (by rw [o2, i2, sB false (decide_eq_false z2)]; rfl) jA
theorem l_lt14 {c : Nat} (hH : yOK H) (hM : yMH H IL0) (hS : yMS 161 S IL0) (h27 : IL0.1 145 27 = -1) (hB : ySB H S) (hc : c < H.k) (hQ : ∀ IL', yfm ypd IL0 IL' → (∀ j, j < H.n → IL'.1 167 j = nI (ytS H S (H.sh c) fa j) ∧ IL'.1 168 j = nI (ytB H S (H.sh c) fa j)) → Q (zFx t, IL') none) : ∀ (k m : Nat) (IL : zIL) (w5 w6 : Value), m + k = H.n → yfm ypd IL0 IL → (∀ j, j < m → IL.1 167 j = nI (ytS H S (H.sh c) fa j) ∧ IL.1 168 j = nI (ytB H S (H.sh c) fa j)) → gX8_layTills xs (d + 3) Q 14 [.ref 145, .int (nI c), .int fa, .int (yre S), .int (nI m), w5, w6] [] (zFx t, IL)
  | 0, m, IL, w5, w6, hm, fr, hj => by
    have n7 := hH.n7
    exact sX8_layTills_14 t _ _ _ _ _ _ IL (zd_f (hM.pd fr).mem (by omega) (by omega) (hQ IL fr (fun j h => hj j (by omega))))
  | k + 1, m, IL, w5, w6, hm, fr, hj => by
    have n7 := hH.n7
    have hMI := hM.pd fr
    have hSI := hS.pd fr
    have s1 : ∀ v, yMS 161 S (zwi IL 167 m v) := fun v j h => by rw [zwi_ne (by decide)]; exact hSI j h
    have s2 : ∀ v w, yMS 161 S (zwi (zwi IL 167 m v) 168 m w) := fun v w j h => by rw [zwi_ne (by decide)]; exact s1 v j h
    have f2 : ∀ v w, yfm ypd IL0 (zwi (zwi IL 167 m v) 168 m w) := fun v w => yfm_tr fr (yfm_tr (yfm_wi rfl) (yfm_wi rfl))
    have jj : ∀ v w j, j < m → (zwi (zwi IL 167 m v) 168 m w).1 167 j = nI (ytS H S (H.sh c) fa j) ∧ (zwi (zwi IL 167 m v) 168 m w).1 168 j = nI (ytB H S (H.sh c) fa j) := fun v w j h => by
      rw [zwi_ne (show 167 ≠ 168 by decide), zwi_at, if_neg (by omega), zwi_at, if_neg (by omega), zwi_ne (show 168 ≠ 167 by decide)]
      exact hj j h
    refine sX8_layTills_14 t _ _ _ _ _ _ IL (zd_t hMI.mem (by omega) (by omega) (c_misOut (by omega) hSI (fun hb => kI (z0 (zix_n (by omega) (by omega) ?_))) (fun hb => kI (z1 (zix_n (by omega) (by omega) ?_)))))
    · rw [ycl (by omega)]
      refine c_misOut (by omega) (s1 0) (fun _ => kI (z0 (zix_n (by omega) (by omega) (c_misOut (by omega) (s2 0 0) (fun _ => kI (z0 ?_)) (fun g => absurd g (by rw [hb]; decide)))))) (fun g => absurd g (by rw [hb]; decide))
      refine sX8_layTills_91 t _ _ _ _ _ _ _ (zdec (fun _ => ?_) (fun z => absurd (by decide) z))
      rw [nI_1]
      refine l_lt14 hH hM hS h27 hB hc hQ k (m + 1) _ _ _ (by omega) (f2 0 0) (fun j h => ?_)
      by_cases e : j = m
      · subst e
        have q1 : ytS H S (H.sh c) fa j = 0 := by unfold ytS; rw [hb]; rfl
        have q2 : ytB H S (H.sh c) fa j = 0 := by unfold ytB; rw [hb]; rfl
        rw [q1, q2]
        refine ⟨?_, ?_⟩
        · rw [zwi_ne (by decide), zwi_at, if_pos rfl]; rfl
        · rw [zwi_at, if_pos rfl]; rfl
      · exact jj 0 0 j (by omega)
    · rw [ycl (by omega)]
      refine c_misOut (by omega) (s1 1000000) (fun g => absurd g (by rw [hb]; decide)) (fun _ => kI (z1 (zix_n (by omega) (by omega) (c_misOut (by omega) (s2 1000000 1000000) (fun g => absurd g (by rw [hb]; decide)) (fun _ => kI (z1 (zix_n (by omega) (by omega) ?_)))))))
      have nl := yNo_le hB (m := m) (by omega)
      have q1 : ytS H S (H.sh c) fa m = yfN (ypS H S m (H.sh c) fa) (yNo S m + 1) 0 := by unfold ytS; rw [if_pos hb]
      have q2 : ytB H S (H.sh c) fa m = yfN (ypB H S m (H.sh c) fa) (yNo S m + 1) 0 := by unfold ytB; rw [if_pos hb]
      refine l_lt91 hH (hM.pd (f2 1000000 1000000)) (s2 1000000 1000000) (by rw [(f2 1000000 1000000).1 145 27 rfl, h27]) hB (by omega) hc (fun IL' w5 w6 f h2 h3 h4 => ?_) (yNo S m + 1) 0 _ _ _ (by omega) ?_ yfm_rf ?_ ?_ (fun j h => ⟨rfl, rfl⟩)
      · refine l_lt14 hH hM hS h27 hB hc hQ k (m + 1) IL' w5 w6 (by omega) (yfm_tr (f2 1000000 1000000) f) (fun j h => ?_)
        by_cases e : j = m
        · subst e
          rw [q1, q2]
          exact ⟨h2, h3⟩
        · rw [(h4 j e).1, (h4 j e).2]
          exact jj _ _ j (by omega)
      · rw [nI_pred, s2 1000000 1000000 m (by omega)]
        exact nl.2
      · rw [zwi_ne (by decide), zwi_at, if_pos rfl]; rfl
      · rw [zwi_at, if_pos rfl]; rfl
theorem c_layTills {c : Nat} (hH : yOK H) (hM : yMH H IL) (hS : yMS 161 S IL) (h27 : IL.1 145 27 = -1) (hB : ySB H S) (hc : c < H.k) (hQ : ∀ IL', yfm ypd IL IL' → (∀ j, j < H.n → IL'.1 167 j = nI (ytS H S (H.sh c) fa j) ∧ IL'.1 168 j = nI (ytB H S (H.sh c) fa j)) → Q (zFx t, IL') none) : zcall xs (d + 4) 255 (zFx t, IL) [.ref 145, .int (nI c), .int fa] Q := by
  refine sX8_layTills t _ _ IL (c_members (kI ?_))
  rw [hS 8 (by decide)]
  exact l_lt14 hH hM hS h27 hB hc hQ H.n 0 IL _ _ (by omega) yfm_rf (fun j h => absurd h (Nat.not_lt_zero j))
theorem l_md55 {x1 x2 : Int32} {i A : Nat} (hH : yOK H) (hM : yMH H IL) (hB : ySB H S) (hi : i < 2 ^ H.n) (hA : A ≤ 1000000) (hj : ∀ j, j < H.n → IL.1 167 j = nI (ytS H S q fa j) ∧ IL.1 168 j = nI (ytB H S q fa j)) : ∀ (k m a : Nat), m + k = H.n → a ≤ 1000000 * m → (∀ w5 w6, gX8_drops xs (d + 2) Q 26 [.ref 145, .int x1, .int x2, .int (nI (min A (yfo (yco1 H S q fa i) k m a))), .int (nI (i + 1)), w5, w6] [] (zFx t, IL)) → gX8_drops xs (d + 2) Q 55 [.ref 145, .int x1, .int x2, .int (nI A), .int (nI i), .int (nI a), .int (nI m)] [] (zFx t, IL)
  | 0, m, a, hm, ha, h26 => by
    have n7 := hH.n7
    unfold yfo at h26
    refine sX8_drops_55 t _ _ _ _ _ _ IL (zd_f hM.mem (by omega) (by omega) (c_lesser (kI ?_)))
    rw [y_le3 hA (by omega), nI_1]
    exact h26 _ _
  | k + 1, m, a, hm, ha, h26 => by
    have n7 := hH.n7
    have p := y_pw7 n7
    unfold yfo at h26
    have go : ∀ (b : Nat), a + b = yco1 H S q fa i m a → b ≤ 1000000 → gX8_drops xs (d + 2) Q 55 [.ref 145, .int x1, .int x2, .int (nI A), .int (nI i), .int (nI a + nI b), .int (nI m + 1)] [] (zFx t, IL) := fun b e hb => by
      rw [nI_1, nI_add]
      exact l_md55 hH hM hB hi hA hj k (m + 1) (a + b) (by omega) (by omega) (by rw [e]; exact h26)
    have b1 : ytS H S q fa m ≤ 1000000 := by rcases ytS_le hB (m := m) (by omega) (q := q) (fa := fa) with h | h <;> omega
    have b2 : ytB H S q fa m ≤ 1000000 := by rcases ytB_le hB (m := m) (by omega) (q := q) (fa := fa) with h | h <;> omega
    refine sX8_drops_55 t _ _ _ _ _ _ IL (zd_t hM.mem (by omega) (by omega) (zdec (fun z => zix_n (by omega) (by omega) ?_) (fun z => zix_n (by omega) (by omega) ?_)))
    · have hb := (zb_1 _ m (by omega)).mp z
      rw [bt_nI (by omega)] at hb
      rw [ycl (by omega), (hj m (by omega)).2]
      exact go _ (by unfold yco1; rw [hb]; rfl) b2
    · have hb := y_bit (fun w => z ((zb_1 _ m (by omega)).mpr w))
      rw [bt_nI (by omega)] at hb
      rw [ycl (by omega), (hj m (by omega)).1]
      exact go _ (by unfold yco1; rw [hb]; rfl) b1
theorem l_md26 {x1 x2 : Int32} (hH : yOK H) (hM : yMH H IL) (hB : ySB H S) (hj : ∀ j, j < H.n → IL.1 167 j = nI (ytS H S q fa j) ∧ IL.1 168 j = nI (ytB H S q fa j)) : ∀ (k i A : Nat) (w5 w6 : Value), i + k = 2 ^ H.n → A ≤ 1000000 → Q (zFx t, IL) (some (.int (yen1 (yfo (ymf (fun i => yen H (nI i)) (yco H S q fa)) k i A)))) → gX8_drops xs (d + 2) Q 26 [.ref 145, .int x1, .int x2, .int (nI A), .int (nI i), w5, w6] [] (zFx t, IL)
  | 0, i, A, w5, w6, hi, hA, hQ => by
    have p := y_pw7 hH.n7
    unfold yfo at hQ
    refine sX8_drops_26 t _ _ _ _ _ _ IL (zd_f (by rw [hM.mem, y_pow _ hH.n7]) (by omega) (by omega) ?_)
    rcases Nat.lt_or_ge A 1000000 with h | h
    · rw [yen1_s h] at hQ
      exact zdec (fun _ => hQ) (fun z => absurd (nI_lt (b := 1000000) h (by omega)) z)
    · rw [yen1_b h] at hQ
      exact zdec (fun z => absurd z (nI_nlt (b := 1000000) h (by omega))) (fun _ => hQ)
  | k + 1, i, A, w5, w6, hi, hA, hQ => by
    have p := y_pw7 hH.n7
    unfold yfo at hQ
    have em : ymf (fun i => yen H (nI i)) (yco H S q fa) i A = if yen H (nI i) then min A (yco H S q fa i) else A := rfl
    rw [em] at hQ
    refine sX8_drops_26 t _ _ _ _ _ _ IL (zd_t (by rw [hM.mem, y_pow _ hH.n7]) (by omega) (by omega) (c_isEnough hH hM (kI (zbb (fun e => ?_) (fun e => ?_)))))
    · rw [e] at hQ
      rw [nI_1]
      exact l_md26 hH hM hB hj k (i + 1) A w5 w6 (by omega) hA hQ
    · rw [e] at hQ
      refine l_md55 (q := q) (fa := fa) hH hM hB (by omega) hA hj H.n 0 0 (by omega) (by omega) (fun w5 w6 => ?_)
      exact l_md26 hH hM hB hj k (i + 1) _ w5 w6 (by omega) (Nat.le_trans (Nat.min_le_left _ _) hA) hQ
theorem m_drops {x : Int32} (hH : yOK H) (hM : yMH H IL) (hS : yMS 161 S IL) (h27 : IL.1 145 27 = -1) (hB : ySB H S) (hfa : fa = 0 ∨ fa = 1) (hQ : ∀ IL', yfm yms IL IL' → IL'.1 145 27 = -1 → Q (zFx t, IL') (some (.int (r_drops H S x fa)))) : zcall xs (d + 5) 256 (zFx t, IL) [.ref 145, .int x, .int fa] Q := by
  have k6 := hH.k6
  unfold r_drops at hQ
  refine sX8_drops t _ _ IL (c_mayRead hH hM hS (fun h => kI (z0 ?_)) (fun c hc e hb h => kI (z1 ?_)))
  · have := hQ IL yfm_rf h27
    rw [h] at this
    exact this
  · subst e
    rw [h, ycl (by omega)] at hQ
    refine c_tr01 hfa (kI (c_layTills hH hM hS h27 hB hc (fun IL' f hj => kV ?_)))
    exact l_md26 (q := H.sh c) (fa := fa) hH (hM.pd f) hB hj (2 ^ H.n) 0 1000000 _ _ (by omega) (by omega) (hQ IL' (yfm_pd f) (by rw [f.1 145 27 rfl, h27]))
end DROPS2
