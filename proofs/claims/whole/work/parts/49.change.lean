/-! a CHANGE: bows are handed over -/
theorem b_nout {n : Nat} (hn : n ≤ 7) (x : Int32) {i : Nat} (hi : i < 32) : bt (((1 <<< (nI n &&& 31)) - 1) &&& (x ^^^ (-1))) i = (decide (i < n) && !bt x i) := by
  rw [b_and, y_all n hn i hi, b_xor, b_m1 i hi]
  cases bt x i <;> simp
theorem ybws_len (S : Nat → Int32) : ∀ k m, (ybws S k m).length ≤ k
  | 0, _ => Nat.le_refl 0
  | k + 1, m => by
    have := ybws_len S k (m + 1)
    unfold ybws
    split
    · rw [List.length_cons]; omega
    · omega
theorem yrk_le (S : Nat → Int32) : ∀ j, yrk S j ≤ j
  | 0 => Nat.le_refl 0
  | j + 1 => by
    have := yrk_le S j
    unfold yrk
    split <;> omega
theorem ygd (L : List Int32) (r : Nat) : (L.drop r).getD 0 0 = L.getD r 0 := by
  rw [List.getD_eq_getElem?_getD, List.getD_eq_getElem?_getD, List.getElem?_drop, Nat.add_zero]
theorem ybws_t {S : Nat → Int32} {k g : Nat} (h : bt (S 7) g = true) : ybws S (k + 1) g = S g :: ybws S k (g + 1) := by
  rw [ybws, if_pos h]
theorem ybws_f {S : Nat → Int32} {k g : Nat} (h : bt (S 7) g = false) : ybws S (k + 1) g = ybws S k (g + 1) := by
  rw [ybws, if_neg (by rw [h]; decide)]
theorem ychg_o {H : yH} {S : Nat → Int32} {j : Nat} (h : j ≠ 7) (hn : j < H.n) (b : bt (S 7) j = true) : ychg H S j = 0 := by
  unfold ychg
  rw [if_neg h, if_pos hn, if_pos b]
theorem ychg_i {H : yH} {S : Nat → Int32} {j : Nat} (h : j ≠ 7) (hn : j < H.n) (b : bt (S 7) j = false) : ychg H S j = (ybws S H.n 0).getD (yrk S j) 0 := by
  unfold ychg
  rw [if_neg h, if_pos hn, if_neg (by rw [b]; decide)]
theorem ychg_x {H : yH} {S : Nat → Int32} {j : Nat} (h : j ≠ 7) (hn : ¬ j < H.n) : ychg H S j = S j := by
  unfold ychg
  rw [if_neg h, if_neg hn]
theorem ychg_7 {H : yH} {S : Nat → Int32} : ychg H S 7 = ((1 <<< (nI H.n &&& 31)) - 1) &&& (S 7 ^^^ (-1)) := rfl
def yh1 (H : yH) (S : Nat → Int32) (m j : Nat) : Int32 := if j < m ∧ bt (S 7) j = false then (ybws S H.n 0).getD (yrk S j) 0 else S j
theorem yh1_a {H : yH} {S : Nat → Int32} {m j : Nat} (h : j < m) (b : bt (S 7) j = false) : yh1 H S m j = (ybws S H.n 0).getD (yrk S j) 0 := by
  unfold yh1
  rw [if_pos ⟨h, b⟩]
theorem yh1_b {H : yH} {S : Nat → Int32} {m j : Nat} (h : ¬ (j < m ∧ bt (S 7) j = false)) : yh1 H S m j = S j := by
  unfold yh1
  rw [if_neg h]
theorem yh1_s {H : yH} {S : Nat → Int32} {m j : Nat} : yh1 H S (m + 1) j = if j = m ∧ bt (S 7) m = false then (ybws S H.n 0).getD (yrk S m) 0 else yh1 H S m j := by
  unfold yh1
  by_cases e : j = m
  · subst e
    by_cases b : bt (S 7) j = false
    · rw [if_pos ⟨by omega, b⟩, if_pos ⟨rfl, b⟩]
    · rw [if_neg (fun z => b z.2), if_neg (fun z => b z.2), if_neg (fun z => b z.2)]
  · rw [if_neg (c := j = m ∧ _) (fun z => e z.1)]
    have : (j < m + 1) = (j < m) := propext ⟨fun _ => by omega, fun _ => by omega⟩
    simp only [this]
section HO
variable {xs : List Int32} {d : Nat} {Q : zQ} {t u : Bool} {IL IL0 : zIL} {H : yH} {s : Nat} {S : Nat → Int32}
theorem yCH.z1 {A B : zIL} (h : yCH u H A) (h22 : 22 ≤ s) (hf : zfr [s + 1] A B) : yCH u H B := h.zf h22 (zfr_le hf (fun c hc => by rw [List.mem_singleton.mp hc]; simp))
theorem l_ho23 (hs : zSt t s) (h22 : 22 ≤ s) (hH : yOK H) (hC : yCH u H IL) (ho : IL.1 s 1 = S 7) (hg : ∀ j, j < 7 → bt (S 7) j = true → IL.1 (s + 1) j = S j) {m : Nat} (hm : m < H.n) : ∀ (k g : Nat), k = H.n - g → g ≤ 14 → (∀ g', ybws S (H.n - g') g' = (ybws S k g).drop 1 → g' ≤ max g H.n + 1 → gX6_handOver xs (d + 1) Q 4 [.ref s, .ref (zH u), .int (nI g'), .int (nI (m + 1))] [] (zFx t, zwi IL (s + 1) m ((ybws S k g).getD 0 0))) → gX6_handOver xs (d + 1) Q 23 [.ref s, .ref (zH u), .int (nI g), .int (nI m)] [] (zFx t, IL)
  | 0, g, hk, hg14, h4 => by
    have n7 := hH.n7
    refine sX6_handOver_23 t u s _ _ IL hs (zd_f hC.mem (by omega) (by omega) (zd_f hC.mem (by omega) (by omega) (zix_n (by omega) (by omega) ?_)))
    rw [nI_1, nI_1, ycl (by omega)]
    refine h4 (g + 1) ?_ (by omega)
    rw [show H.n - (g + 1) = 0 by omega]
    rfl
  | k + 1, g, hk, hg14, h4 => by
    have n7 := hH.n7
    refine sX6_handOver_23 t u s _ _ IL hs (zd_t hC.mem (by omega) (by omega) ?_)
    rw [ho]
    refine c_has (by omega) (fun hb => (kI ?_)) (fun hb => (kI ?_))
    · show gX6_handOver xs (d + 1) Q 23 [.ref s, .ref (zH u), .int (nI g + 1), .int (nI m)] [] (zFx t, IL)
      rw [nI_1]
      refine l_ho23 hs h22 hH hC ho hg hm k (g + 1) (by omega) (by omega) (fun g' e1 e2 => ?_)
      have := h4 g'
      rw [ybws_f hb] at this
      exact this e1 (by omega)
    · refine (show zif2 _ _ _ from zd_t hC.mem (by omega) (by omega) (zix_n (by omega) (by omega) (zix_n (by omega) (by omega) ?_)))
      rw [nI_1, nI_1, ycl (by omega), ycl (by omega), hg g (by omega) hb]
      have := h4 (g + 1)
      rw [ybws_t hb] at this
      refine this ?_ (by omega)
      rw [show H.n - (g + 1) = k by omega]
      rfl
theorem l_ho83 (hs : zSt t s) (h22 : 22 ≤ s) (hH : yOK H) (hC : yCH u H IL0) (hS : yCS s S IL0) {x2 : Int32} (hQ : ∀ IL', zfr [s, s + 1] IL0 IL' → yCS s (ychg H S) IL' → Q (zFx t, IL') none) : ∀ (k i : Nat) (IL : zIL), i + k = H.n → zfr [s + 1] IL0 IL → (∀ j, j < 7 → IL.1 (s + 1) j = if j < i ∧ bt (S 7) j = true then 0 else yh1 H S H.n j) → gX6_handOver xs (d + 1) Q 83 [.ref s, .ref (zH u), .int x2, .int (nI i)] [] (zFx t, IL)
  | 0, i, IL, hi, fr, hn => by
    have n7 := hH.n7
    have zl := zH_le u
    have hCI := hC.z1 h22 fr
    have e0 : IL.1 s = IL0.1 s := fr.1 s (by simp)
    refine sX6_handOver_83 t u s _ _ IL hs (zd_f hCI.mem (by omega) (by omega) (sX4_everyone t u IL (kI ?_)))
    rw [hCI.mem, e0, hS.out]
    refine hQ _ (zfr_tr (zfr_le fr (fun c hc => by rw [List.mem_singleton.mp hc]; simp)) (zfr_wi List.mem_cons_self)) ?_
    unfold yCS
    have hh : ∀ j, 7 < j → ychg H S j = S j := fun j hj => by
      unfold ychg
      rw [if_neg (by omega), if_neg (by omega)]
    refine ⟨fun j hj => ?_, ?_, ?_, ?_, ?_⟩
    · rw [zwi_ne (by omega), hn j hj]
      by_cases a : j < H.n
      · by_cases b : bt (S 7) j = true
        · rw [if_pos ⟨by omega, b⟩, ychg_o (by omega) a b]
        · rw [if_neg (fun z => b z.2), yh1_a a (y_bit b), ychg_i (by omega) a (y_bit b)]
      · rw [if_neg (fun z => by have := z.1; omega), yh1_b (fun z => a z.1), ychg_x (by omega) a]
    · rw [zwi_at, if_pos rfl, ychg_7]
    · rw [zwi_at, if_neg (by decide), e0, hS.read, hh 8 (by decide)]
    · rw [zwi_at, if_neg (by decide), e0, hS.car, hh 9 (by decide)]
    · rw [zwi_at, if_neg (by decide), e0, hS.seed, hh 10 (by decide)]
  | k + 1, i, IL, hi, fr, hn => by
    have n7 := hH.n7
    have hCI := hC.z1 h22 fr
    have e0 : IL.1 s = IL0.1 s := fr.1 s (by simp)
    refine sX6_handOver_83 t u s _ _ IL hs (zd_t hCI.mem (by omega) (by omega) ?_)
    rw [e0, hS.out]
    refine c_has (by omega) (fun hb => (kI ?_)) (fun hb => (kI ?_))
    · show gX6_handOver xs (d + 1) Q 83 [.ref s, .ref (zH u), .int x2, .int (nI i + 1)] [] (zFx t, IL)
      rw [nI_1]
      refine l_ho83 hs h22 hH hC hS hQ k (i + 1) IL (by omega) fr (fun j hj => ?_)
      rw [hn j hj]
      by_cases e : j = i
      · subst e
        rw [if_neg (fun z => by have := z.1; omega), if_neg (fun z => by rw [hb] at z; cases z.2)]
      · have : (j < i + 1) = (j < i) := propext ⟨fun _ => by omega, fun _ => by omega⟩
        simp only [this]
    · refine zix_n (by omega) (by omega) ?_
      rw [nI_1, ycl (by omega)]
      refine l_ho83 hs h22 hH hC hS hQ k (i + 1) _ (by omega) (zfr_tr fr (zfr_wi List.mem_cons_self)) (fun j hj => ?_)
      rw [zwi_at]
      by_cases e : j = i
      · subst e
        rw [if_pos rfl, if_pos ⟨by omega, hb⟩]
      · have : (j < i + 1) = (j < i) := propext ⟨fun _ => by omega, fun _ => by omega⟩
        simp only [if_neg e, this, hn j hj]
theorem l_ho4 (hs : zSt t s) (h22 : 22 ≤ s) (hH : yOK H) (hC : yCH u H IL0) (hS : yCS s S IL0) (hQ : ∀ IL', zfr [s, s + 1] IL0 IL' → yCS s (ychg H S) IL' → Q (zFx t, IL') none) : ∀ (k m g : Nat) (IL : zIL), m + k = H.n → g ≤ H.n + m → zfr [s + 1] IL0 IL → (∀ j, j < 7 → IL.1 (s + 1) j = yh1 H S m j) → ybws S (H.n - g) g = (ybws S H.n 0).drop (yrk S m) → gX6_handOver xs (d + 1) Q 4 [.ref s, .ref (zH u), .int (nI g), .int (nI m)] [] (zFx t, IL)
  | 0, m, g, IL, hi, hg, fr, hn, hl => by
    have n7 := hH.n7
    have e : m = H.n := by omega
    subst e
    refine sX6_handOver_4 t u s _ _ IL hs (zd_f (hC.z1 h22 fr).mem (by omega) (by omega) ?_)
    exact l_ho83 hs h22 hH hC hS hQ H.n 0 IL (by omega) fr (fun j hj => by rw [if_neg (fun z => by have := z.1; omega)]; exact hn j hj)
  | k + 1, m, g, IL, hi, hg, fr, hn, hl => by
    have n7 := hH.n7
    have hCI := hC.z1 h22 fr
    have e0 : IL.1 s = IL0.1 s := fr.1 s (by simp)
    refine sX6_handOver_4 t u s _ _ IL hs (zd_t hCI.mem (by omega) (by omega) ?_)
    rw [e0, hS.out]
    refine c_has (by omega) (fun hb => (kI ?_)) (fun hb => (kI ?_))
    · show gX6_handOver xs (d + 1) Q 23 [.ref s, .ref (zH u), .int (nI g), .int (nI m)] [] (zFx t, IL)
      refine l_ho23 hs h22 hH hCI (by rw [e0, hS.out]) (fun j hj hbj => ?_) (by omega) (H.n - g) g rfl (by omega) (fun g' e1 e2 => ?_)
      · rw [hn j hj]
        unfold yh1
        rw [if_neg (fun z => by rw [hbj] at z; cases z.2)]
      · refine l_ho4 hs h22 hH hC hS hQ k (m + 1) g' _ (by omega) (by omega) (zfr_tr fr (zfr_wi List.mem_cons_self)) (fun j hj => ?_) ?_
        · rw [zwi_at, yh1_s]
          by_cases e : j = m
          · rw [if_pos e, if_pos ⟨e, hb⟩, hl, ygd]
          · rw [if_neg e, if_neg (fun z => e z.1), hn j hj]
        · rw [e1, hl, List.drop_drop, yrk, hb]
          rfl
    · show gX6_handOver xs (d + 1) Q 4 [.ref s, .ref (zH u), .int (nI g), .int (nI m + 1)] [] (zFx t, IL)
      rw [nI_1]
      refine l_ho4 hs h22 hH hC hS hQ k (m + 1) g IL (by omega) (by omega) fr (fun j hj => ?_) ?_
      · rw [hn j hj, yh1_s, if_neg (fun z => by rw [hb] at z; cases z.2)]
      · rw [hl, yrk, hb]
        rfl
theorem c_handOver (hs : zSt t s) (h22 : 22 ≤ s) (hH : yOK H) (hC : yCH u H IL) (hS : yCS s S IL) (hQ : ∀ IL', zfr [s, s + 1] IL IL' → yCS s (ychg H S) IL' → Q (zFx t, IL') none) : zcall xs (d + 2) 85 (zFx t, IL) [.ref s, .ref (zH u)] Q := by
  refine sX6_handOver t u s IL hs (l_ho4 hs h22 hH hC hS hQ H.n 0 0 IL (by omega) (by omega) zfr_rf (fun j hj => ?_) rfl)
  rw [hS.no j hj]
  unfold yh1
  rw [if_neg (fun z => by have := z.1; omega)]
end HO
section MHO
variable {xs : List Int32} {d : Nat} {Q : zQ} {t : Bool} {IL IL0 : zIL} {H : yH} {S : Nat → Int32}
theorem yMH.hf {A B : zIL} (h : yMH H A) (f : zfr [162, 164] A B) : yMH H B := h.fr (fun c j z => by
  rw [f.1 c (fun hc => by
    simp only [List.mem_cons, List.not_mem_nil, or_false] at hc
    rcases hc with rfl | rfl <;> exact absurd z (by unfold yMHs; simp))])
theorem l_ch73 (hH : yOK H) (hM : yMH H IL0) (hQ : ∀ IL', zfr [162, 164] IL0 IL' → yMS 162 (ychg H S) IL' → Q (zFx t, IL') none) : ∀ (k m : Nat) (IL : zIL), m + k = H.n → zfr [162, 164] IL0 IL → (∀ j, j < (ybws S H.n 0).length → IL.1 164 j = (ybws S H.n 0).getD j 0) → (∀ j, j < 11 → IL.1 162 j = if j = 7 ∨ j < m then ychg H S j else S j) → gX8_changes xs (d + 1) Q 73 [.ref 145, .int (nI (ybws S H.n 0).length), .int (nI (yrk S m)), .int (nI m)] [] (zFx t, IL)
  | 0, m, IL, hi, fr, hb, hS => by
    have n7 := hH.n7
    refine sX8_changes_73 t _ _ _ IL (zd_f (hM.hf fr).mem (by omega) (by omega) (hQ IL fr (fun j hj => ?_)))
    rw [hS j hj]
    by_cases e : j = 7 ∨ j < m
    · rw [if_pos e]
    · rw [if_neg e]
      unfold ychg
      rw [if_neg (fun z => e (Or.inl z)), if_neg (fun z => e (Or.inr (by omega)))]
  | k + 1, m, IL, hi, fr, hb, hS => by
    have n7 := hH.n7
    have hMI := hM.hf fr
    have bl := ybws_len S H.n 0
    have rl := yrk_le S m
    have o7 : IL.1 162 7 = ((1 <<< (nI H.n &&& 31)) - 1) &&& (S 7 ^^^ (-1)) := by
      rw [hS 7 (by decide), if_pos (Or.inl rfl)]
      unfold ychg
      rw [if_pos rfl]
    have om : bt (IL.1 162 7) m = !bt (S 7) m := by
      rw [o7, b_nout n7 _ (by omega), decide_eq_true (by omega), Bool.true_and]
    have w7 : ∀ v, (zwi IL 162 m v).1 162 7 = IL.1 162 7 := fun v => by rw [zwi_at, if_neg (by omega)]
    -- behind the writing
    have on : ∀ (v : Int32) (r : Nat), v = ychg H S m → r = yrk S (m + 1) → gX8_changes xs (d + 1) Q 73 [.ref 145, .int (nI (ybws S H.n 0).length), .int (nI r), .int (nI m + 1)] [] (zFx t, zwi IL 162 m v) := fun v r hv hr => by
      rw [nI_1, hr]
      refine l_ch73 hH hM hQ k (m + 1) _ (by omega) (zfr_tr fr (zfr_wi (by decide))) (fun j hj => by rw [zwi_ne (by decide)]; exact hb j hj) (fun j hj => ?_)
      rw [zwi_at]
      by_cases e : j = m
      · subst e
        rw [if_pos rfl, if_pos (Or.inr (by omega)), hv]
      · have : (j = 7 ∨ j < m + 1) = (j = 7 ∨ j < m) := propext ⟨fun _ => by omega, fun _ => by omega⟩
        simp only [if_neg e, hS j hj, this]
    have e1 : nI (yrk S m) + 0 = nI (yrk S m) := Int32.add_zero _
    refine sX8_changes_73 t _ _ _ IL (zd_t hMI.mem (by omega) (by omega) (c_isOutHere (by omega) (fun g => (kI ?_)) (fun g => (kI ?_))))
    · have hbm : bt (S 7) m = true := by
        rw [om] at g
        cases e : bt (S 7) m
        · rw [e] at g; cases g
        · rfl
      show zix _ _ _
      refine zix_n (by omega) (by omega) ?_
      rw [ycl (by omega)]
      refine c_isOutHere (by omega) (fun _ => (kI (c_truth0 (kI ?_)))) (fun g' => absurd g' (by rw [w7, g]; decide))
      rw [e1]
      exact on 0 _ (by unfold ychg; rw [if_neg (by omega), if_pos (by omega), if_pos hbm]) (by rw [yrk, hbm]; rfl)
    · have hbm : bt (S 7) m = false := by
        rw [om] at g
        cases e : bt (S 7) m
        · rfl
        · rw [e] at g; cases g
      have er : yrk S m + 1 = yrk S (m + 1) := by rw [yrk, hbm]; rfl
      have ev : ychg H S m = (ybws S H.n 0).getD (yrk S m) 0 := by
        unfold ychg
        rw [if_neg (by omega), if_pos (by omega), if_neg (by rw [hbm]; decide)]
      show zif2 _ _ _
      rcases Nat.lt_or_ge (yrk S m) (ybws S H.n 0).length with q | q
      · refine zd_t rfl q (by omega) (zix_n (by omega) (by omega) (zix_n (by omega) (by omega) ?_))
        rw [ycl (by omega), ycl (by omega)]
        refine c_isOutHere (by omega) (fun g' => absurd g' (by rw [w7, g]; decide)) (fun _ => (kI (c_truth1 (kI ?_))))
        rw [nI_1]
        exact on _ _ (by rw [ev, hb _ q]) er
      · refine zd_f rfl q (by omega) (zix_n (by omega) (by omega) ?_)
        rw [ycl (by omega)]
        refine c_isOutHere (by omega) (fun g' => absurd g' (by rw [w7, g]; decide)) (fun _ => (kI (c_truth1 (kI ?_))))
        rw [nI_1]
        exact on _ _ (by rw [ev, List.getD_eq_getElem?_getD, List.getElem?_eq_none q]; rfl) er
theorem l_ch4 (hH : yOK H) (hM : yMH H IL0) (hS : yMS 162 S IL0) (hQ : ∀ IL', zfr [162, 164] IL0 IL' → yMS 162 (ychg H S) IL' → Q (zFx t, IL') none) : ∀ (k m : Nat) (p : List Int32) (IL : zIL), m + k = H.n → zfr [164] IL0 IL → ybws S H.n 0 = p ++ ybws S k m → (∀ j, j < p.length → IL.1 164 j = p.getD j 0) → p.length ≤ m → gX8_changes xs (d + 1) Q 4 [.ref 145, .int (nI p.length), .int (nI m), .retAddr 0] [] (zFx t, IL)
  | 0, m, p, IL, hi, fr, hl, hp, hm => by
    have n7 := hH.n7
    have fr2 : zfr [162, 164] IL0 IL := zfr_le fr (fun c hc => by rw [List.mem_singleton.mp hc]; simp)
    refine sX8_changes_4 t _ _ _ IL (zd_f (hM.hf fr2).mem (by omega) (by omega) ?_)
    have ep : ybws S H.n 0 = p := by rw [hl]; exact List.append_nil p
    have a162 : IL.1 162 = IL0.1 162 := fr.1 162 (by decide)
    rw [(hM.hf fr2).mem, a162, hS 7 (by decide), ← ep]
    refine l_ch73 hH hM hQ H.n 0 _ (by omega) (zfr_tr fr2 (zfr_wi (by decide))) (fun j hj => ?_) (fun j hj => ?_)
    · rw [zwi_ne (by decide), ep]
      exact hp j (by rw [← ep]; exact hj)
    · rw [zwi_at]
      by_cases e : j = 7
      · rw [if_pos e, if_pos (Or.inl e)]
        unfold ychg
        rw [if_pos e]
      · rw [if_neg e, if_neg (fun z => by omega), a162, hS j hj]
  | k + 1, m, p, IL, hi, fr, hl, hp, hm => by
    have n7 := hH.n7
    have fr2 : zfr [162, 164] IL0 IL := zfr_le fr (fun c hc => by rw [List.mem_singleton.mp hc]; simp)
    have a162 : IL.1 162 = IL0.1 162 := fr.1 162 (by decide)
    refine sX8_changes_4 t _ _ _ IL (zd_t (hM.hf fr2).mem (by omega) (by omega) (c_isOutHere (by omega) (fun g => (kI ?_)) (fun g => (kI ?_))))
    · rw [a162, hS 7 (by decide)] at g
      show gX8_changes xs (d + 1) Q 4 [.ref 145, .int (nI p.length), .int (nI m + 1), .retAddr 0] [] (zFx t, IL)
      rw [nI_1]
      refine l_ch4 hH hM hS hQ k (m + 1) p IL (by omega) fr ?_ hp (by omega)
      rw [hl, ybws, g]
      rfl
    · rw [a162, hS 7 (by decide)] at g
      show zix _ _ (zix _ _ _)
      refine zix_n (by omega) (by omega) (zix_n (by omega) (by omega) ?_)
      rw [nI_1, nI_1, ycl (by omega), ycl (by omega), a162, hS m (by omega)]
      have e1 : p.length + 1 = (p ++ [S m]).length := by simp
      rw [e1]
      refine l_ch4 hH hM hS hQ k (m + 1) (p ++ [S m]) _ (by omega) (zfr_tr fr (zfr_wi (by decide))) ?_ (fun j hj => ?_) (by rw [← e1]; omega)
      · rw [hl, ybws, g, if_pos rfl, List.append_assoc]
        rfl
      · rw [← e1] at hj
        rw [zwi_at, List.getD_eq_getElem?_getD]
        by_cases e : j = p.length
        · rw [if_pos e, e, List.getElem?_append_right (Nat.le_refl _), Nat.sub_self]
          rfl
        · rw [if_neg e, List.getElem?_append_left (by omega), ← List.getD_eq_getElem?_getD]
          exact hp j (by omega)
theorem c_changes (hH : yOK H) (hM : yMH H IL) (hS : yMS 162 S IL) (hQ : ∀ IL', zfr [162, 164] IL IL' → yMS 162 (ychg H S) IL' → Q (zFx t, IL') none) : zcall xs (d + 2) 219 (zFx t, IL) [.ref 145] Q :=
  sX8_changes t IL (l_ch4 hH hM hS hQ H.n 0 [] IL (by omega) zfr_rf rfl (fun j hj => absurd hj (Nat.not_lt_zero j)) (Nat.le_refl 0))
end MHO
