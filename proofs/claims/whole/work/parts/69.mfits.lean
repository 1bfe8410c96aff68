/-! fits, sure, ask: the model's side -/
def yph (c j : Nat) : Bool := ypw c j || c == 174
def ypf (c j : Nat) : Bool := yph c j || c == 176 || (c == 145 && j == 27)
theorem ypf_ms : ∀ c j, yms c j = false → ypf c j = false := by
  intro c j h
  unfold yms at h
  unfold ypf yph ypw
  simp only [Bool.or_eq_false_iff, Bool.and_eq_false_iff, beq_eq_false_iff_ne] at h ⊢
  omega
theorem yfm_pf {A B : zIL} (h : yfm ypf A B) : yfm yms A B := yfm_le h ypf_ms
theorem yfm_hf {A B : zIL} (h : yfm yph A B) : yfm ypf A B := yfm_le h (fun c j z => by unfold ypf at z; simp only [Bool.or_eq_false_iff] at z; exact z.1.1)
theorem yfm_wh {A B : zIL} (h : yfm ypw A B) : yfm yph A B := yfm_le h (fun c j z => by unfold yph at z; simp only [Bool.or_eq_false_iff] at z; exact z.1)
theorem ytr_s {H : yH} {v : Int32} {n : Nat} : ytr H v (n + 1) = ytr1 H v n (ytr H v n) := rfl
section MFITS
variable {xs : List Int32} {d : Nat} {Q : zQ} {t : Bool} {IL IL0 : zIL} {X : yX} {H : yH} {k : Int32}
theorem yMH.ph {A B : zIL} (h : yMH H A) (f : yfm yph A B) : yMH H B := h.ms (yfm_pf (yfm_hf f))
theorem yMH.pf {A B : zIL} (h : yMH H A) (f : yfm ypf A B) : yMH H B := h.ms (yfm_pf f)
theorem l_layHad {v : Nat} (hH : yOK H) (hn0 : 0 < H.n) (hM : yMH H IL0) (hv : v ≤ 20) (h27 : IL0.1 145 27 = nI v) (hQ : ∀ IL', yfm yph IL0 IL' → (∀ n, n ≤ 6 → IL'.1 174 (7 * v + n) = ytr H (nI v) n) → (∀ j, (j < 7 * v ∨ 7 * v + 7 ≤ j) → IL'.1 174 j = IL0.1 174 j) → Q (zFx t, zwi IL' 145 27 (-1)) none) : ∀ (m i : Nat) (IL : zIL), i + m = 7 → yfm yph IL0 IL → (∀ n, n < i → IL.1 174 (7 * v + n) = ytr H (nI v) n) → (∀ j, (j < 7 * v ∨ 7 * v + 7 ≤ j) → IL.1 174 j = IL0.1 174 j) → gX8_layHad xs (d + 3) Q 17 [.ref 145, .int (nI v), .int (nI (H.n - 1)), .int (ytr H (nI v) i), .int (nI i)] [] (zFx t, IL)
  | 0, i, IL, hi, fr, h1, h2 => sX8_layHad_17 t _ _ _ _ IL (zdec (fun _ => hQ IL fr (fun n hn => h1 n (by omega)) h2) (fun z => absurd (nI_lt (a := 6) (by omega) (by omega)) z))
  | m + 1, i, IL, hi, fr, h1, h2 => by
    have n7 := hH.n7
    have k6 := hH.k6
    have hMI := hM.ph fr
    have tin := ytr_in hH (nI v) i
    have hno : yin (ytr H (nI v) i) 0 99 := ⟨tin.1, by have := tin.2; omega⟩
    refine sX8_layHad_17 t _ _ _ _ IL (zdec (fun z => absurd z (nI_nlt (a := 6) (by omega) (by omega))) (fun _ => ?_))
    rw [y_7v]
    refine zix_n (by omega) (by omega) ?_
    rw [ycl (by omega), nI_1]
    have f1 : yfm yph IL0 (zwi IL 174 (7 * v + i) (ytr H (nI v) i)) := yfm_tr fr (yfm_wi rfl)
    have a1 : ∀ n, n < i + 1 → (zwi IL 174 (7 * v + i) (ytr H (nI v) i)).1 174 (7 * v + n) = ytr H (nI v) n := fun n hn => by
      rw [zwi_at]
      by_cases e : n = i
      · rw [if_pos (by omega), e]
      · rw [if_neg (by omega)]; exact h1 n (by omega)
    have a2 : ∀ j, (j < 7 * v ∨ 7 * v + 7 ≤ j) → (zwi IL 174 (7 * v + i) (ytr H (nI v) i)).1 174 j = IL0.1 174 j := fun j hj => by
      rw [zwi_at, if_neg (by omega)]; exact h2 j hj
    generalize hK : zwi IL 174 (7 * v + i) (ytr H (nI v) i) = K at f1 a1 a2 ⊢
    have hMK := hM.ph f1
    rw [hMK.cla]
    have go : ∀ (IL' : zIL) (no : Int32), yfm yph IL0 IL' → IL'.1 174 = K.1 174 → no = ytr H (nI v) (i + 1) → gX8_layHad xs (d + 3) Q 17 [.ref 145, .int (nI v), .int (nI (H.n - 1)), .int no, .int (nI (i + 1))] [] (zFx t, IL') := fun IL' no f e1 e2 => by
      rw [e2]
      exact l_layHad hH hn0 hM hv h27 hQ m (i + 1) IL' (by omega) f (fun n hn => by rw [e1]; exact a1 n hn) (fun j hj => by rw [e1]; exact a2 j hj)
    rcases Nat.lt_or_ge i H.k with q | q
    · refine zd_t rfl q (by omega) (zix_n (by omega) (by omega) ?_)
      rw [ycl (by omega), hMK.sh i q]
      have e27 : K.1 145 27 = nI v := by rw [f1.1 145 27 rfl]; exact h27
      refine c_mwindOf (ss := H.ss) (mi := nI v) (vo := H.vo (H.n - 1)) hH.ss hH.bk (by omega) hMK.form hMK.len hMK.ss (hMK.vo _ (by omega)) (by rw [e27, if_neg (nI_pos (by omega))]) (fun IL2 f2 => kI (c_greater (kI ?_)))
      have g : yfm yph IL0 IL2 := yfm_tr f1 (yfm_zfr f2 (fun c hc j => by
        simp only [List.mem_cons, List.not_mem_nil, or_false] at hc
        rcases hc with rfl | rfl <;> rfl))
      rw [y_wind hno, (hM.ph g).cock]
      have e174 : IL2.1 174 = K.1 174 := f2.1 174 (by decide)
      refine zdec (fun z => go IL2 _ g e174 ?_) (fun z => go IL2 _ g e174 ?_)
      · rw [ytr_s]; unfold ytr1; rw [if_pos q, if_pos z]
      · rw [ytr_s]; unfold ytr1; rw [if_pos q, if_neg z]
    · refine zd_f rfl q (by omega) (go K _ f1 rfl ?_)
      rw [ytr_s]; unfold ytr1; rw [if_neg (by omega)]
theorem c_layHad {v : Nat} (hH : yOK H) (hn0 : 0 < H.n) (hM : yMH H IL) (hv : v ≤ 20) (hQ : ∀ IL', yfm ypf IL IL' → IL'.1 145 27 = -1 → (∀ n, n ≤ 6 → IL'.1 174 (7 * v + n) = ytr H (nI v) n) → (∀ j, (j < 7 * v ∨ 7 * v + 7 ≤ j) → IL'.1 174 j = IL.1 174 j) → IL'.1 176 = IL.1 176 → Q (zFx t, IL') none) : zcall xs (d + 4) 273 (zFx t, IL) [.ref 145, .int (nI v)] Q := by
  refine sX8_layHad t _ IL ?_
  have f0 : yfm ypf IL (zwi IL 145 27 (nI v)) := yfm_wi rfl
  obtain ⟨m, hm⟩ : ∃ m, H.n = m + 1 := ⟨H.n - 1, by omega⟩
  have e : IL.1 145 41 - 1 = nI (H.n - 1) := by rw [hM.mem, hm, nI_pred, show m + 1 - 1 = m by omega]
  rw [e]
  refine l_layHad hH hn0 (hM.pf f0) hv (by rw [zwi_at, if_pos rfl]) (fun IL' f h1 h2 => ?_) 7 0 _ (by omega) yfm_rf (fun n hn => absurd hn (Nat.not_lt_zero n)) (fun j _ => rfl)
  refine hQ _ (yfm_tr f0 (yfm_tr (yfm_hf f) (yfm_wi rfl))) (by rw [zwi_at, if_pos rfl]) (fun n hn => by rw [zwi_ne (by decide)]; exact h1 n hn) (fun j hj => by rw [zwi_ne (by decide), h2 j hj, zwi_ne (by decide)]) ?_
  rw [zwi_ne (by decide)]
  funext j
  rw [f.1 176 j rfl, zwi_ne (by decide)]
theorem l_fitsM {v : Nat} (hI : yI X) (hM : yM X IL) (hv : v ≤ 20) (ht : ∀ n, n ≤ 6 → IL.1 174 (7 * v + n) = ytr X.H (nI v) n) : ∀ (m i : Nat) (b : Bool), i + m = X.cnt → Q (zFx t, IL) (some (.int (if b && yfi1 X k v m i then 1 else 0))) → gX8_fitsMinds xs d Q 5 [.ref 145, .int (nI v), .int k, .int (if b then 1 else 0), .int (nI i)] [] (zFx t, IL)
  | 0, i, b, hi, hQ => by
    have c30 := hI.cnt
    unfold yfi1 at hQ
    rw [Bool.and_true] at hQ
    exact sX8_fitsMinds_5 t _ _ _ _ IL (zd_f hM.cnt (by omega) (by omega) (zbi hQ))
  | m + 1, i, b, hi, hQ => by
    have c30 := hI.cnt
    have s6 := hI.sof i (by omega)
    unfold yfi1 at hQ
    have et := ht (X.sof i) s6
    refine sX8_fitsMinds_5 t _ _ _ _ IL (zd_t hM.cnt (by omega) (by omega) (zbb (fun e => ?_) (fun e => ?_)))
    · rw [e, Bool.false_and] at hQ
      rw [e]
      exact hQ
    · subst e
      rw [Bool.true_and] at hQ
      have next : ∀ (b : Bool) (x : Int32), x = (if b then 1 else 0) → (!ysk X k i || (yat X v i == X.sis i)) = b → gX8_fitsMinds xs d Q 5 [.ref 145, .int (nI v), .int k, .int x, .int (nI i + 1)] [] (zFx t, IL) := fun b x hx h => by
        rw [hx, nI_1]
        rw [h] at hQ
        exact l_fitsM hI hM hv ht m (i + 1) b (by omega) hQ
      -- it counts
      have yes : ysk X k i = true → zix (nI i) 30 (zix (7 * nI v + IL.1 169 (nI i).toNatClampNeg) 147 (zix (nI i) 30 (zif2 (decide (IL.1 174 (7 * nI v + IL.1 169 (nI i).toNatClampNeg).toNatClampNeg < IL.1 170 (nI i).toNatClampNeg)) (zix (nI i) 30 (zif2 (decide (0 = IL.1 173 (nI i).toNatClampNeg)) (gX8_fitsMinds xs d Q 5 [.ref 145, .int (nI v), .int k, .int 1, .int (nI i + 1)] [] (zFx t, IL)) (gX8_fitsMinds xs d Q 5 [.ref 145, .int (nI v), .int k, .int 0, .int (nI i + 1)] [] (zFx t, IL)))) (zix (nI i) 30 (zif2 (decide (1 = IL.1 173 (nI i).toNatClampNeg)) (gX8_fitsMinds xs d Q 5 [.ref 145, .int (nI v), .int k, .int 1, .int (nI i + 1)] [] (zFx t, IL)) (gX8_fitsMinds xs d Q 5 [.ref 145, .int (nI v), .int k, .int 0, .int (nI i + 1)] [] (zFx t, IL))))))) := fun h => by
        rw [ycl (by omega), hM.sof i (by omega), y_7v, hM.sno i (by omega), hM.sis i (by omega)]
        refine zix_n (by omega) (by omega) (zix_n (by omega) (by omega) (zix_n (by omega) (by omega) ?_))
        rw [ycl (by omega), et]
        refine zdec (fun z => zix_n (by omega) (by omega) ?_) (fun z => zix_n (by omega) (by omega) ?_)
        · have ea : yat X v i = false := by unfold yat; rw [decide_eq_true z]; rfl
          cases e : X.sis i
          · exact zdec (fun _ => next true 1 rfl (by rw [h, ea, e]; rfl)) (fun q => absurd rfl q)
          · exact zdec (fun q => absurd q (by decide)) (fun _ => next false 0 rfl (by rw [h, ea, e]; rfl))
        · have ea : yat X v i = true := by unfold yat; rw [decide_eq_false z]; rfl
          cases e : X.sis i
          · exact zdec (fun q => absurd q (by decide)) (fun _ => next false 0 rfl (by rw [h, ea, e]; rfl))
          · exact zdec (fun _ => next true 1 rfl (by rw [h, ea, e]; rfl)) (fun q => absurd rfl q)
      refine zix_n (by omega) (by omega) ?_
      have e171 : IL.1 171 (nI i).toNatClampNeg = X.sto i := by rw [ycl (by omega)]; exact hM.sto i (by omega)
      have e172 : IL.1 172 (nI i).toNatClampNeg = X.sun i := by rw [ycl (by omega)]; exact hM.sun i (by omega)
      rw [e171, e172]
      refine zdec (fun z => next true _ rfl (by unfold ysk; rw [decide_eq_true z]; rfl)) (fun z => zix_n (by omega) (by omega) ?_)
      by_cases e : X.sun i = -1
      · exact zdec (fun _ => yes (by unfold ysk; rw [decide_eq_false z, decide_eq_true e]; rfl)) (fun q => absurd (by rw [e]; decide) q)
      · have hs := (hI.sun i (by omega)).resolve_left e
        refine zdec (fun q => absurd q (fun q => by
          rw [Int32.lt_iff_toInt_lt] at q
          have := hs.1
          have b0 : (0 : Int32).toInt = 0 := by decide
          omega)) (fun _ => zix_n (by omega) (by omega) (zdec (fun q => yes ?_) (fun q => next true _ rfl ?_)))
        · unfold ysk; rw [decide_eq_false z, decide_eq_true q, Bool.or_true]; rfl
        · unfold ysk; rw [decide_eq_false z, decide_eq_false e, decide_eq_false q]; rfl
/-- what layFits leaves, as far as v -/
def yfl (X : yX) (k : Int32) (v : Nat) (IL : zIL) : Prop := (∀ u n, u < v → n ≤ 6 → IL.1 174 (7 * u + n) = ytr X.H (nI u) n) ∧ (∀ u, u < v → IL.1 176 u = if yfs X k u then 1 else 0)
theorem l_layFits (hI : yI X) (hM : yM X IL0) (ho : yope X.H = true) (hQ : ∀ IL', yfm ypf IL0 IL' → IL'.1 145 27 = -1 → yfl X k 21 IL' → Q (zFx t, IL') (some (.int (nI (ycn (yfs X k) 21))))) : ∀ (m v : Nat) (IL : zIL), v + m = 21 → yfm ypf IL0 IL → IL.1 145 27 = -1 → yfl X k v IL → gX8_layFits xs (d + 4) Q 4 [.ref 145, .int k, .int (nI (ycn (yfs X k) v)), .int (nI v)] [] (zFx t, IL)
  | 0, v, IL, hv, fr, h27, hl => by
    have e : v = 21 := by omega
    subst e
    exact sX8_layFits_4 t _ _ _ IL (zdec (fun _ => hQ IL fr h27 hl) (fun z => absurd (by decide) z))
  | m + 1, v, IL, hv, fr, h27, hl => by
    have hMI : yM X IL := hM.ms (fun c j _ h => fr.1 c j (ypf_ms c j h)) h27
    have n0 : 0 < X.H.n := by
      unfold yope at ho
      rcases Nat.eq_zero_or_pos X.H.n with q | q
      · rw [q] at ho; cases ho
      · exact q
    refine sX8_layFits_4 t _ _ _ IL (zdec (fun z => absurd z (nI_nlt (a := 20) (by omega) (by omega))) (fun _ => c_misLastOut hI.H hMI.H (kI (zbb (fun e => absurd e (by rw [ho]; decide)) (fun _ => ?_)))))
    refine c_layHad hI.H n0 hMI.H (by omega) (fun IL1 f1 g27 t1 t2 t3 => kV ?_)
    have hM1 : yM X IL1 := hMI.ms (fun c j _ h => f1.1 c j (ypf_ms c j h)) g27
    refine sX8_fitsMinds t _ _ IL1 (l_fitsM (k := k) hI hM1 (by omega) t1 X.cnt 0 true (by omega) (kI ?_))
    rw [Bool.true_and]
    refine zix_n (by omega) (by omega) (zix_n (by omega) (by omega) ?_)
    rw [ycl (by omega), y_nar, zwi_at, if_pos rfl]
    refine c_truth (kI ?_)
    have ep : yfs X k v = yfi1 X k v X.cnt 0 := by unfold yfs; rw [ho, Bool.true_and]
    have ec : nI (ycn (yfs X k) v) + (if yfi1 X k v X.cnt 0 then 1 else 0) = nI (ycn (yfs X k) (v + 1)) := by
      rw [ycn, ep]
      cases yfi1 X k v X.cnt 0
      · exact Int32.add_zero _
      · exact nI_1 _
    rw [ec, nI_1]
    refine l_layFits hI hM ho hQ m (v + 1) _ (by omega) (yfm_tr fr (yfm_tr f1 (yfm_wi rfl))) (by rw [zwi_ne (by decide)]; exact g27) ⟨fun u n hu hn => ?_, fun u hu => ?_⟩
    · rw [zwi_ne (by decide)]
      by_cases e : u = v
      · rw [e]; exact t1 n hn
      · rw [t2 (7 * u + n) (by omega)]
        exact hl.1 u n (by omega) hn
    · rw [zwi_at]
      by_cases e : u = v
      · rw [if_pos e, e, ep]
      · rw [if_neg e, t3]
        exact hl.2 u (by omega)
theorem c_layFits (hI : yI X) (hM : yM X IL) (hQ : ∀ IL', yfm yms IL IL' → IL'.1 145 27 = -1 → (¬ ycn (yfs X k) 21 = 0 → yfl X k 21 IL') → Q (zFx t, IL') (some (.int (nI (ycn (yfs X k) 21))))) : zcall xs (d + 5) 274 (zFx t, IL) [.ref 145, .int k] Q := by
  refine sX8_layFits t _ IL ?_
  cases ho : yope X.H
  · have e0 : ycn (yfs X k) 21 = 0 := ycn_f 21 (fun i _ => by unfold yfs; rw [ho]; rfl)
    have := hQ IL yfm_rf hM.m27 (fun q => absurd e0 q)
    rw [e0] at this
    exact sX8_layFits_4 t _ _ _ IL (zdec (fun z => absurd z (by decide)) (fun _ => c_misLastOut hI.H hM.H (kI (zbb (fun _ => this) (fun e => absurd e (by rw [ho]; decide))))))
  · exact l_layFits hI hM ho (fun IL' f g h => hQ IL' (yfm_pf f) g (fun _ => h)) 21 0 IL (by omega) yfm_rf hM.m27 ⟨fun u n hu => absurd hu (Nat.not_lt_zero u), fun u hu => absurd hu (Nat.not_lt_zero u)⟩
theorem m_fits (hI : yI X) (hM : yM X IL) (hQ : ∀ IL', yfm yms IL IL' → IL'.1 145 27 = -1 → Q (zFx t, IL') (some (.int (nI (ycn (yfs X k) 21))))) : zcall xs (d + 6) 275 (zFx t, IL) [.ref 145, .int k] Q :=
  sX8_fits t _ IL (c_layFits hI hM (fun IL' f g _ => kI (hQ IL' f g)))
theorem ysu_id {w : Int32} {p : Nat → Bool} (h : ycn p 21 = 0) : yfo (ysu w p) 21 0 (-1) = -1 := yfo_id 21 0 (-1) (fun j b _ hj => by
  unfold ysu
  rw [ycn_0 p 21 h j (by omega)]
  rfl)
theorem l_msure {w x2 : Int32} {p : Nat → Bool} (hl : ∀ u, u < 21 → IL.1 176 u = if p u then 1 else 0) : ∀ (m v : Nat) (b : Int32), v + m = 21 → yb1 21 b → Q (zFx t, IL) (some (.int (yfo (ysu w p) m v b))) → gX8_sure xs d Q 24 [.ref 145, .int w, .int x2, .int b, .int (nI v)] [] (zFx t, IL)
  | 0, v, b, hv, hb, hQ => by
    have e : v = 21 := by omega
    subst e
    exact sX8_sure_24 t _ _ _ _ IL (zdec (fun _ => hQ) (fun z => absurd (by decide) z))
  | m + 1, v, b, hv, hb, hQ => by
    unfold yfo at hQ
    have hb' : yb1 21 (ysu w p v b) := by
      unfold ysu
      split
      · split
        · exact Or.inr ⟨v, by omega, rfl⟩
        · split
          · exact Or.inr ⟨v, by omega, rfl⟩
          · exact hb
      · exact hb
    have go : ∀ b', b' = ysu w p v b → gX8_sure xs d Q 24 [.ref 145, .int w, .int x2, .int b', .int (nI v + 1)] [] (zFx t, IL) := fun b' e => by
      rw [nI_1, e]
      exact l_msure hl m (v + 1) _ (by omega) hb' hQ
    refine sX8_sure_24 t _ _ _ _ IL (zdec (fun z => absurd z (nI_nlt (a := 20) (by omega) (by omega))) (fun _ => zix_n (by omega) (by omega) ?_))
    rw [ycl (by omega), hl v (by omega)]
    refine zbb (fun e => go b ?_) (fun e => zdec (fun z => go (nI v) ?_) (fun z => zdec (fun y => go (nI v) ?_) (fun y => go b ?_)))
    · unfold ysu; rw [e]; rfl
    · have zb := (yb1_neg (by decide) hb).mp z
      unfold ysu; rw [e, if_pos rfl, if_pos zb]
      split <;> rfl
    · unfold ysu; rw [e, if_pos rfl, if_pos y]
    · have zb := fun q => z ((yb1_neg (by decide) hb).mpr q)
      unfold ysu; rw [e, if_pos rfl, if_neg y, if_neg zb]
theorem m_sure {w : Int32} (hI : yI X) (hM : yM X IL) (hQ : ∀ IL', yfm yms IL IL' → IL'.1 145 27 = -1 → Q (zFx t, IL') (some (.int (r_sure X w k)))) : zcall xs (d + 6) 276 (zFx t, IL) [.ref 145, .int w, .int k] Q := by
  unfold r_sure at hQ
  refine sX8_sure t _ _ IL (c_isIn (fun z => kI (z0 ?_)) (fun z z2 => kI (z1 (c_layFits (k := k) hI hM (fun IL' f g h => kI ?_)))))
  · have := hQ IL yfm_rf hM.m27
    rw [if_neg (y_n01 z).1, if_neg (y_n01 z).2] at this
    exact this
  · have q := hQ IL' f g
    have c21 := ycn_le (yfs X k) 21
    refine zdec (fun y => ?_) (fun y => ?_)
    · have e0 : ycn (yfs X k) 21 = 0 := (nI_eq (b := 0) (by omega) (by omega)).mp y
      rw [ysu_id e0] at q
      revert q
      split
      · exact id
      · split <;> exact id
    · have nz : ¬ ycn (yfs X k) 21 = 0 := fun e => y (by rw [e]; rfl)
      refine l_msure (p := yfs X k) (h nz).2 21 0 (-1) (by omega) (Or.inl rfl) ?_
      rcases y_01 z z2 with e | e
      · rw [if_pos e] at q; exact q
      · rw [if_neg (by rw [e]; decide), if_pos e] at q; exact q
/-- what leftBy reads -/
def ylb (p : Nat → Bool) (g : Nat → Nat → Nat) (IL : zIL) : Prop := (∀ u, u < 21 → IL.1 176 u = if p u then 1 else 0) ∧ (∀ u n, u < 21 → n ≤ 6 → g n u ≤ 29 ∧ IL.1 174 (7 * u + n) = nI (g n u))
theorem ylb_fr {p : Nat → Bool} {g : Nat → Nat → Nat} {A B : zIL} (h : ylb p g A) (f : zfr [175] A B) : ylb p g B := ⟨fun u hu => by rw [f.1 176 (by decide)]; exact h.1 u hu, fun u n hu hn => by rw [f.1 174 (by decide)]; exact h.2 u n hu hn⟩
theorem l_left25 {p : Nat → Bool} {g : Nat → Nat → Nat} {n : Nat} (hl : ylb p g IL0) (hn : n ≤ 6) (hQ : ∀ IL', zfr [175] IL0 IL' → Q (zFx t, IL') (some (.int (nI (yMm p (g n)))))) : ∀ (m v a : Nat) (IL : zIL) (w4 : Value), v + m = 21 → a ≤ 21 → yfo (yM1 p (g n)) m v a = yMm p (g n) → zfr [175] IL0 IL → (∀ c, c < 40 → IL.1 175 c = nI (yT p (g n) c v)) → gX8_leftBy xs (d + 1) Q 25 [.ref 145, .int (nI n), .int (nI a), .int (nI v), w4] [] (zFx t, IL)
  | 0, v, a, IL, w4, hv, ha, he, fr, ht => by
    have e : v = 21 := by omega
    subst e
    unfold yfo at he
    rw [← he] at hQ
    exact sX8_leftBy_25 t _ _ _ _ IL (zdec (fun _ => hQ IL fr) (fun z => absurd (by decide) z))
  | m + 1, v, a, IL, w4, hv, ha, he, fr, ht => by
    unfold yfo at he
    have hlI := ylb_fr hl fr
    obtain ⟨g29, e174⟩ := hlI.2 v n (by omega) hn
    have q := yT_le p (g n) (g n v) (v + 1)
    refine sX8_leftBy_25 t _ _ _ _ IL (zdec (fun z => absurd z (nI_nlt (a := 20) (by omega) (by omega))) (fun _ => zix_n (by omega) (by omega) ?_))
    rw [ycl (by omega), hlI.1 v (by omega)]
    refine zbb (fun e => ?_) (fun e => ?_)
    · have e1 : yM1 p (g n) v a = a := by unfold yM1; rw [e]; rfl
      rw [e1] at he
      rw [nI_1]
      refine l_left25 hl hn hQ m (v + 1) a IL w4 (by omega) ha he fr (fun c hc => ?_)
      rw [ht c hc, yT, e]
      rfl
    · rw [y_7v]
      refine zix_n (by omega) (by omega) ?_
      rw [ycl (by omega), e174]
      refine zix_n (by omega) (by omega) (zix_n (by omega) (by omega) (zix_n (by omega) (by omega) ?_))
      rw [ycl (by omega), zwi_at, if_pos rfl, ht (g n v) (by omega), nI_1]
      have eT : yT p (g n) (g n v) (v + 1) = yT p (g n) (g n v) v + 1 := by rw [yT, e, decide_eq_true rfl]; rfl
      have e1 : yM1 p (g n) v a = max a (yT p (g n) (g n v) v + 1) := by unfold yM1; rw [if_pos e, eT]
      rw [e1] at he
      refine c_greater (kI ?_)
      rw [ygr_max, y_max2 (by omega) (by omega), nI_1]
      refine l_left25 hl hn hQ m (v + 1) _ _ _ (by omega) (Nat.max_le.mpr ⟨ha, by omega⟩) he (zfr_tr fr (zfr_wi (by decide))) (fun c hc => ?_)
      rw [zwi_at]
      by_cases w : c = g n v
      · rw [if_pos w, w, eT]
      · rw [if_neg w, ht c hc, yT, e, decide_eq_false (fun q => w q.symm)]
        rfl
theorem l_left2 {x1 : Int32} (hQ : ∀ IL' w4, zfr [175] IL0 IL' → (∀ c, c < 40 → IL'.1 175 c = 0) → gX8_leftBy xs d Q 25 [.ref 145, .int x1, .int 0, .int 0, w4] [] (zFx t, IL')) : ∀ (m i : Nat) (IL : zIL) (w3 w4 : Value), i + m = 40 → zfr [175] IL0 IL → (∀ c, c < i → IL.1 175 c = 0) → gX8_leftBy xs d Q 2 [.ref 145, .int x1, .int (nI i), w3, w4] [] (zFx t, IL)
  | 0, i, IL, w3, w4, hi, fr, h => sX8_leftBy_2 t _ _ _ _ IL (zd_f (n := 40) rfl (by omega) (by omega) (hQ IL _ fr (fun c hc => h c (by omega))))
  | m + 1, i, IL, w3, w4, hi, fr, h => by
    refine sX8_leftBy_2 t _ _ _ _ IL (zd_t (n := 40) rfl (by omega) (by omega) (zix_n (by omega) (by omega) ?_))
    rw [ycl (by omega), nI_1]
    refine l_left2 hQ m (i + 1) _ _ _ (by omega) (zfr_tr fr (zfr_wi (by decide))) (fun c hc => ?_)
    rw [zwi_at]
    by_cases e : c = i
    · rw [if_pos e]
    · rw [if_neg e]; exact h c (by omega)
theorem c_leftBy {p : Nat → Bool} {g : Nat → Nat → Nat} {n : Nat} (hl : ylb p g IL) (hn : n ≤ 6) (hQ : ∀ IL', zfr [175] IL IL' → Q (zFx t, IL') (some (.int (nI (yL p (g n)))))) : zcall xs (d + 2) 277 (zFx t, IL) [.ref 145, .int (nI n)] Q := by
  rw [yL_M] at hQ
  refine sX8_leftBy t _ IL (l_left2 (IL0 := IL) (fun IL' w4 f h => ?_) 40 0 IL _ _ (by omega) zfr_rf (fun c hc => absurd hc (Nat.not_lt_zero c)))
  exact l_left25 (ylb_fr hl f) hn (fun IL2 f2 => hQ IL2 (zfr_tr f f2)) 21 0 0 IL' w4 (by omega) (by omega) rfl zfr_rf (fun c hc => by rw [h c hc]; rfl)
theorem l_mask {w x2 : Int32} {L : Nat → Nat} {P : zIL → Prop} (hL : ∀ n, L n ≤ 21) (hP : ∀ A B, P A → zfr [175] A B → P B) (hc : ∀ (IL : zIL) n (Q' : zQ), P IL → n ≤ 6 → (∀ IL', zfr [175] IL IL' → Q' (zFx t, IL') (some (.int (nI (L n))))) → zcall xs (d + 2) 277 (zFx t, IL) [.ref 145, .int (nI n)] Q') (hp0 : P IL0) : ∀ (m n b : Nat) (IL : zIL), n + m = 7 → b ≤ 6 → zfr [175] IL0 IL → (∀ IL', zfr [175] IL0 IL' → Q (zFx t, IL') (some (.int (if w = 0 then nI (yfo (yak L) m n b) else nI (L (yfo (yak L) m n b)))))) → gX8_ask xs (d + 2) Q 24 [.ref 145, .int w, .int x2, .int (nI b), .int (nI n)] [] (zFx t, IL)
  | 0, n, b, IL, hm, hb, fr, hQ => by
    have e : n = 7 := by omega
    subst e
    unfold yfo at hQ
    refine sX8_ask_24 t _ _ _ _ IL (zdec (fun _ => zdec (fun z => ?_) (fun z => hc IL b _ (hP _ _ hp0 fr) hb (fun IL' f => kI ?_))) (fun z => absurd (by decide) z))
    · have := hQ IL fr
      rw [if_pos z] at this; exact this
    · have := hQ IL' (zfr_tr fr f)
      rw [if_neg z] at this; exact this
  | m + 1, n, b, IL, hm, hb, fr, hQ => by
    unfold yfo at hQ
    have l1 := hL n
    have l2 := hL b
    refine sX8_ask_24 t _ _ _ _ IL (zdec (fun z => absurd z (nI_nlt (a := 6) (by omega) (by omega))) (fun _ => hc IL n _ (hP _ _ hp0 fr) (by omega) (fun IL1 f1 => kI (hc IL1 b _ (hP _ _ hp0 (zfr_tr fr f1)) hb (fun IL2 f2 => kI (zdec (fun z => ?_) (fun z => ?_)))))))
    · have e : yak L n b = n := by unfold yak; rw [if_pos ((nI_ltI (by omega) (by omega)).mp z)]
      rw [e] at hQ
      rw [nI_1]
      exact l_mask hL hP hc hp0 m (n + 1) n IL2 (by omega) (by omega) (zfr_tr fr (zfr_tr f1 f2)) hQ
    · have e : yak L n b = b := by unfold yak; rw [if_neg (fun q => z ((nI_ltI (by omega) (by omega)).mpr q))]
      rw [e] at hQ
      rw [nI_1]
      exact l_mask hL hP hc hp0 m (n + 1) b IL2 (by omega) hb (zfr_tr fr (zfr_tr f1 f2)) hQ
theorem m_ask {w : Int32} (hI : yI X) (hM : yM X IL) (hQ : ∀ IL', yfm yms IL IL' → IL'.1 145 27 = -1 → Q (zFx t, IL') (some (.int (r_ask X w k)))) : zcall xs (d + 6) 278 (zFx t, IL) [.ref 145, .int w, .int k] Q := by
  unfold r_ask at hQ
  refine sX8_ask t _ _ IL (c_isIn (fun z => kI (z0 ?_)) (fun z z2 => kI (z1 (c_layFits (k := k) hI hM (fun IL' f g h => kI ?_)))))
  · have := hQ IL yfm_rf hM.m27
    rw [if_neg (y_n01 z).1, if_neg (y_n01 z).2] at this
    revert this
    split <;> exact id
  · have c21 := ycn_le (yfs X k) 21
    refine zdec (fun y => ?_) (fun y => ?_)
    · have e0 : ycn (yfs X k) 21 = 0 := (nI_eq (b := 0) (by omega) (by omega)).mp y
      have q := hQ IL' f g
      rw [if_pos e0] at q
      exact q
    · have nz : ¬ ycn (yfs X k) 21 = 0 := fun e => y (by rw [e]; rfl)
      have hl := h nz
      have hb : ylb (yfs X k) (yg0 X) IL' := ⟨hl.2, fun u n hu hn => ⟨(yg0_e hI.H n u).1, by rw [hl.1 u n hu hn]; exact (yg0_e hI.H n u).2⟩⟩
      refine l_mask (L := yLn X k) (P := ylb (yfs X k) (yg0 X)) (fun n => yL_le _ _) (fun A B ha f => ylb_fr ha f) (fun IL n Q' hp hn hq => c_leftBy hp hn hq) hb 6 1 0 IL' (by omega) (by omega) zfr_rf (fun IL2 f2 => ?_)
      have q := hQ IL2 (yfm_tr f (yfm_zfr f2 (fun c hc j => by rw [List.mem_singleton.mp hc]; rfl))) (by rw [f2.1 145 (by decide)]; exact g)
      rw [if_neg nz] at q
      rcases y_01 z z2 with e | e
      · rw [if_pos e] at q
        rw [if_pos e]
        exact q
      · rw [if_neg (by rw [e]; decide), if_pos e] at q
        rw [if_neg (by rw [e]; decide)]
        exact q
end MFITS
