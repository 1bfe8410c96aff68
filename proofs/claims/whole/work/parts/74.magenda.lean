/-! agenda: the model's side -/
def ypa (c j : Nat) : Bool := ypw c j || c == 166 || c == 165 || (c == 145 && j == 63)
theorem yfm_pwa {A B : zIL} (h : yfm ypw A B) : yfm ypa A B := yfm_le h (fun c j z => by unfold ypa at z; simp only [Bool.or_eq_false_iff] at z; exact z.1.1.1)
theorem y_gd {s : List Nat} {f : Nat → Nat} {r : Nat} (h : (List.range r).map f = s) {j : Nat} (hj : j < r) : s.getD j 0 = f j := by
  rw [← h, List.getD_eq_getElem?_getD, List.getElem?_map, List.getElem?_range hj]
  rfl
section MAGENDA
variable {xs : List Int32} {d : Nat} {Q : zQ} {t : Bool} {IL IL0 : zIL} {X : yX} {H : yH} {fa : Int32} {S : Nat → Int32}
theorem yMH.pa {A B : zIL} (h : yMH H A) (f : yfm ypa A B) : yMH H B := h.fr (fun c j z => f.1 c j (by
  unfold yMHs at z
  unfold ypa ypw
  simp only [Bool.or_eq_true, Bool.and_eq_true, beq_iff_eq] at z
  simp only [Bool.or_eq_false_iff, Bool.and_eq_false_iff, beq_eq_false_iff_ne]
  omega))
theorem yfm_166 {A B : zIL} (h : zfr [166] A B) : yfm ypa A B := yfm_zfr h (fun c hc j => by rw [List.mem_singleton.mp hc]; rfl)
theorem c_exRow {r a b : Nat} {f : Nat → Nat} (hr : r ≤ 6) (ha : a < r) (hb : b < r) (hf : ∀ j, j < r → IL.1 166 j = nI (f j)) (hQ : ∀ IL', zfr [166] IL IL' → (∀ j, j < r → IL'.1 166 j = nI (yex f a b j)) → Q (zFx t, IL') none) : zcall xs (d + 1) 232 (zFx t, IL) [.ref 145, .int (nI a), .int (nI b)] Q := by
  refine sX8_exchangeInRow t _ _ IL (zix_n (by omega) (by omega) (zix_n (by omega) (by omega) (zix_n (by omega) (by omega) (zix_n (by omega) (by omega) ?_))))
  rw [ycl (by omega), ycl (by omega), hf a ha, hf b hb]
  refine hQ _ (zfr_tr (zfr_wi (by decide)) (zfr_wi (by decide))) (fun j hj => ?_)
  rw [zwi_at]
  unfold yex
  by_cases e : j = b
  · rw [if_pos e, if_pos e]
  · rw [if_neg e, if_neg e, zwi_at]
    by_cases e2 : j = a
    · rw [if_pos e2, if_pos e2]
    · rw [if_neg e2, if_neg e2]; exact hf j hj
theorem l_nr86 {r : Nat} {x1 x2 : Int32} (hr : r ≤ 6) : ∀ (n : Nat) (f : Nat → Nat) (lo hi : Nat) (IL : zIL), hi ≤ lo + 2 * n → hi < r → lo ≤ r → zfr [166] IL0 IL → (∀ j, j < r → IL.1 166 j = nI (f j)) → (∀ IL', zfr [166] IL0 IL' → (∀ j, j < r → IL'.1 166 j = nI (yrev n f lo hi j)) → Q (zFx t, IL') (some (.int 1))) → gX8_nextRow xs (d + 1) Q 86 [.ref 145, .int x1, .int x2, .int (nI lo), .int (nI hi)] [] (zFx t, IL)
  | 0, f, lo, hi, IL, h1, h2, h3, fr, hf, hQ => sX8_nextRow_86 t _ _ _ _ IL (zdec (fun z => absurd ((nI_ltI (by omega) (by omega)).mp z) (by omega)) (fun _ => hQ IL fr hf))
  | n + 1, f, lo, hi, IL, h1, h2, h3, fr, hf, hQ => by
    unfold yrev at hQ
    refine sX8_nextRow_86 t _ _ _ _ IL (zdec (fun z => ?_) (fun z => ?_))
    · have z' := (nI_ltI (by omega) (by omega)).mp z
      rw [if_pos z'] at hQ
      refine c_exRow hr (by omega) h2 hf (fun IL1 f1 h1' => kV ?_)
      rw [nI_1, sb_m1 (by omega)]
      exact l_nr86 hr n _ (lo + 1) (hi - 1) IL1 (by omega) (by omega) (by omega) (zfr_tr fr f1) h1' hQ
    · have z' : ¬ lo < hi := fun q => z ((nI_ltI (by omega) (by omega)).mpr q)
      rw [if_neg z'] at hQ
      exact hQ IL fr hf
theorem l_nr47 {r k : Nat} {f : Nat → Nat} (hr : r ≤ 6) (hk : k + 1 < r) (h63 : IL.1 145 63 = nI r) (hf : ∀ j, j < r → IL.1 166 j = nI (f j)) (hb : ∀ j, j < r → f j ≤ 5) : ∀ (j : Nat) (w3 w4 : Value), k ≤ j → j < r → (∀ IL', zfr [166] IL IL' → (∀ i, i < r → IL'.1 166 i = nI (yrev 6 (yex f k (ynj f (f k) j)) (k + 1) (r - 1) i)) → Q (zFx t, IL') (some (.int 1))) → gX8_nextRow xs (d + 1) Q 47 [.ref 145, .int (nI k), .int (nI j), w3, w4] [] (zFx t, IL) := by
  intro j
  induction j with
  | zero =>
    intro w3 w4 h1 h2 hQ
    have k0 : k = 0 := by omega
    subst k0
    refine sX8_nextRow_47 t _ _ _ _ IL (zix_n (by omega) (by omega) (zix_n (by omega) (by omega) ?_))
    refine zdec (fun z => absurd z (fun q => (y_asym q).1 q)) (fun _ => c_exRow hr (by omega) h2 hf (fun IL1 f1 h1' => kV ?_))
    rw [f1.1 145 (by decide), h63, nI_1, show nI r - 1 = nI (r - 1) from by rw [← pk_sub (show 1 ≤ r by omega)]; rfl]
    exact l_nr86 hr 6 _ (0 + 1) (r - 1) IL1 (by omega) (by omega) (by omega) f1 h1' hQ
  | succ j ih =>
    intro w3 w4 h1 h2 hQ
    refine sX8_nextRow_47 t _ _ _ _ IL (zix_n (by omega) (by omega) (zix_n (by omega) (by omega) ?_))
    rw [ycl (by omega), ycl (by omega), hf (j + 1) h2, hf k (by omega)]
    have b1 := hb (j + 1) h2
    have b2 := hb k (by omega)
    refine zdec (fun z => ?_) (fun z => c_exRow hr (by omega) h2 hf (fun IL1 f1 h1' => kV ?_))
    · have z' := (nI_ltI (by omega) (by omega)).mp z
      have ne : k ≠ j + 1 := fun q => by rw [q] at z'; omega
      rw [show nI (j + 1) + (-1) = nI j from pk_m1 j]
      have e : ynj f (f k) (j + 1) = ynj f (f k) j := by rw [ynj, if_pos z']
      rw [e] at hQ
      exact ih w3 w4 (by omega) (by omega) hQ
    · have z' : ¬ f (j + 1) < f k := fun q => z ((nI_ltI (by omega) (by omega)).mpr q)
      have e : ynj f (f k) (j + 1) = j + 1 := by rw [ynj, if_neg z']
      rw [e] at hQ
      rw [f1.1 145 (by decide), h63, nI_1, show nI r - 1 = nI (r - 1) from by rw [← pk_sub (show 1 ≤ r by omega)]; rfl]
      exact l_nr86 hr 6 _ (k + 1) (r - 1) IL1 (by omega) (by omega) (by omega) f1 h1' hQ
theorem l_nr7 {r : Nat} {f : Nat → Nat} (hr : r ≤ 6) (hr1 : 1 ≤ r) (h63 : IL.1 145 63 = nI r) (hf : ∀ j, j < r → IL.1 166 j = nI (f j)) (hb : ∀ j, j < r → f j ≤ 5) (h1 : ∀ k IL', ynk f (r - 1) = some k → zfr [166] IL IL' → (∀ i, i < r → IL'.1 166 i = nI (yrev 6 (yex f k (ynj f (f k) (r - 1))) (k + 1) (r - 1) i)) → Q (zFx t, IL') (some (.int 1))) (h0 : ynk f (r - 1) = none → Q (zFx t, IL) (some (.int 0))) : ∀ (K : Nat) (x : Int32) (w2 w3 w4 : Value), K ≤ r - 1 → x = nI K - 1 → ynk f (r - 1) = ynk f K → gX8_nextRow xs (d + 1) Q 7 [.ref 145, .int x, w2, w3, w4] [] (zFx t, IL)
  | 0, x, w2, w3, w4, hK, hx, he => by
    have xn : x < 0 := by rw [hx]; decide
    exact sX8_nextRow_7 t _ _ _ _ IL (zdec (fun _ => zdec (fun _ => h0 he) (fun z => absurd xn z)) (fun z => absurd xn z))
  | K + 1, x, w2, w3, w4, hK, hx, he => by
    rw [nI_pred] at hx
    subst hx
    have xp : ¬ nI K < 0 := nI_pos (by omega)
    have b1 := hb (K + 1) (by omega)
    have b2 := hb K (by omega)
    refine sX8_nextRow_7 t _ _ _ _ IL (zdec (fun z => absurd z xp) (fun _ => zix_n (by omega) (by omega) ?_))
    rw [nI_1]
    refine zix_n (by omega) (by omega) ?_
    rw [ycl (by omega), ycl (by omega), hf (K + 1) (by omega), hf K (by omega)]
    refine zdec (fun z => ?_) (fun z => zdec (fun q => absurd q xp) (fun _ => ?_))
    · have z' := (nI_ltI (by omega) (by omega)).mp z
      have e : ynk f (K + 1) = ynk f K := by rw [ynk, if_pos z']
      exact l_nr7 hr hr1 h63 hf hb h1 h0 K _ w2 w3 w4 (by omega) (Int32.sub_eq_add_neg _ _).symm (by rw [he, e])
    · have z' : ¬ f (K + 1) < f K := fun q => z ((nI_ltI (by omega) (by omega)).mpr q)
      have e : ynk f (K + 1) = some K := by rw [ynk, if_neg z']
      rw [h63, show nI r - 1 = nI (r - 1) from by rw [← pk_sub (show 1 ≤ r by omega)]; rfl]
      exact l_nr47 hr (by omega) h63 hf hb (r - 1) _ _ (by omega) (by omega) (fun IL' f' h => h1 K IL' (by rw [he, e]) f' h)
theorem c_nextRow {r : Nat} {f : Nat → Nat} (hr : r ≤ 6) (h63 : IL.1 145 63 = nI r) (hf : ∀ j, j < r → IL.1 166 j = nI (f j)) (hb : ∀ j, j < r → f j ≤ 5) (h0 : ynx r f = none → Q (zFx t, IL) (some (.int 0))) (h1 : ∀ g IL', ynx r f = some g → zfr [166] IL IL' → (∀ i, i < r → IL'.1 166 i = nI (g i)) → Q (zFx t, IL') (some (.int 1))) : zcall xs (d + 2) 231 (zFx t, IL) [.ref 145] Q := by
  refine sX8_nextRow t IL ?_
  rw [h63]
  rcases Nat.eq_zero_or_pos r with z | z
  · subst z
    have xn : nI 0 - 2 < 0 := by decide
    exact sX8_nextRow_7 t _ _ _ _ IL (zdec (fun _ => zdec (fun _ => h0 rfl) (fun z => absurd xn z)) (fun z => absurd xn z))
  · have e2 : nI r - 2 = nI (r - 1) - 1 := by
      obtain ⟨q, rfl⟩ : ∃ q, r = q + 1 := ⟨r - 1, by omega⟩
      rw [show q + 1 - 1 = q by omega, ← nI_1]
      have : ∀ a : Int32, a + 1 - 2 = a - 1 := fun a => by
        rw [Int32.sub_eq_add_neg, Int32.sub_eq_add_neg, Int32.add_assoc]
        rfl
      exact this _
    rw [e2]
    refine l_nr7 hr z h63 hf hb (fun k IL' e f' h => ?_) (fun e => h0 ?_) (r - 1) _ _ _ _ (Nat.le_refl _) rfl rfl
    · refine h1 _ IL' ?_ f' h
      unfold ynx
      rw [e]
    · unfold ynx
      rw [e]
theorem l_ag70 {r : Nat} {s : List Nat} {x2 x3 : Int32} (hH : yOK H) (hfa : fa = 0 ∨ fa = 1) (hM : yMH H IL0) (h27 : IL0.1 145 27 = -1) (hr : r ≤ 6) (h63 : IL0.1 145 63 = nI r) (hsl : s.length = r) (hs : ∀ c, c ∈ s → c < H.k) (hrow : ∀ j, j < r → IL0.1 166 j = nI (s.getD j 0)) (hQ : ∀ IL' o, yfm ypw IL0 IL' → zif2 (decide (x2 < nI o)) (gX8_agenda xs (d + 5) Q 121 [.ref 145, .int fa, .int (nI o), .int x3, .int (nI o), .int 0] [] (zFx t, IL')) (zcall xs (d + 5) 231 (zFx t, IL') [.ref 145] (zkI (zFx t) fun IL4 y4 => gX8_agenda xs (d + 5) Q 56 [.ref 145, .int fa, .int x2, .int y4, .int (nI o), .int (nI r)] [] (zFx t, IL4))) ∨ o ≠ yEv H fa s S) (a0 : Nat) : ∀ (rest : List Nat) (i a : Nat) (T : Nat → Int32) (IL : zIL), s.drop i = rest → i ≤ r → a + yEv H fa rest T = yEv H fa s S → yfm ypw IL0 IL → yMS 162 T IL → ySB H T → gX8_agenda xs (d + 5) Q 70 [.ref 145, .int fa, .int x2, .int x3, .int (nI a), .int (nI i)] [] (zFx t, IL) := by
  intro rest
  induction rest with
  | nil =>
    intro i a T IL hd hi ha fr hT hB
    have hl : s.length ≤ i := List.drop_eq_nil_iff.mp hd
    have e : i = r := by omega
    subst e
    rw [yEv, Nat.add_zero] at ha
    refine sX8_agenda_70 t _ _ _ _ _ IL (zd_f (by rw [fr.1 145 63 rfl]; exact h63) (by omega) (by omega) ?_)
    exact (hQ IL a fr).resolve_right (fun q => q ha)
  | cons c rest ih =>
    intro i a T IL hd hi ha fr hT hB
    have k6 := hH.k6
    have hlt : i < s.length := by
      rcases Nat.lt_or_ge i s.length with q | q
      · exact q
      · rw [List.drop_eq_nil_iff.mpr q] at hd; cases hd
    have hsi : s.getD i 0 = c := by
      have := List.getElem?_drop (xs := s) (i := i) (j := 0)
      rw [hd] at this
      rw [List.getD_eq_getElem?_getD, ← Nat.add_zero i, ← this]
      rfl
    have hcm : c ∈ s := List.mem_of_mem_drop (hd ▸ List.mem_cons_self)
    have hck := hs c hcm
    have hd' : s.drop (i + 1) = rest := by
      rw [← List.drop_drop, hd]; rfl
    have er : IL.1 166 i = nI c := by rw [fr.1 166 i rfl, hrow i (by omega), hsi]
    refine sX8_agenda_70 t _ _ _ _ _ IL (zd_t (by rw [fr.1 145 63 rfl]; exact h63) (by omega) (by omega) (zix_n (by omega) (by omega) (c_tr01 hfa (kI ?_))))
    rw [ycl (by omega), er]
    refine c_readOne0 hH hB (hM.pw fr) (Or.inl rfl) (y_h27 h27 fr) hck hT (fun IL2 f2 s2 => kI (c_truth (kI ?_)))
    have ea : nI a + (if ypas H (-1) (H.sh c) fa T then 1 else 0) = nI (a + (ypas H (-1) (H.sh c) fa T).toNat) := by
      cases ypas H (-1) (H.sh c) fa T
      · exact Int32.add_zero _
      · exact nI_1 _
    rw [ea, nI_1]
    rw [yEv, ← Nat.add_assoc] at ha
    exact ih (i + 1) _ _ IL2 hd' (by omega) ha (yfm_tr fr f2) s2 (ySB_sit hH hB _ _ _ hck)
theorem l_ag121 {r : Nat} {s : List Nat} {x1 x2 x3 x4 : Int32} (hr : r ≤ 6) (h63 : IL0.1 145 63 = nI r) (hrow : ∀ j, j < r → IL0.1 166 j = nI (s.getD j 0)) (hQ : ∀ IL', zfr [165] IL0 IL' → (∀ j, j < r → IL'.1 165 j = nI (s.getD j 0)) → zcall xs (d + 5) 231 (zFx t, IL') [.ref 145] (zkI (zFx t) fun IL1 y1 => gX8_agenda xs (d + 5) Q 56 [.ref 145, .int x1, .int x2, .int y1, .int x4, .int (nI r)] [] (zFx t, IL1))) : ∀ (m i : Nat) (IL : zIL), i + m = r → zfr [165] IL0 IL → (∀ j, j < i → IL.1 165 j = nI (s.getD j 0)) → gX8_agenda xs (d + 5) Q 121 [.ref 145, .int x1, .int x2, .int x3, .int x4, .int (nI i)] [] (zFx t, IL)
  | 0, i, IL, hi, fr, h => by
    have e : i = r := by omega
    subst e
    exact sX8_agenda_121 t _ _ _ _ _ IL (zd_f (by rw [fr.1 145 (by decide)]; exact h63) (by omega) (by omega) (hQ IL fr h))
  | m + 1, i, IL, hi, fr, h => by
    refine sX8_agenda_121 t _ _ _ _ _ IL (zd_t (by rw [fr.1 145 (by decide)]; exact h63) (by omega) (by omega) (zix_n (by omega) (by omega) (zix_n (by omega) (by omega) ?_)))
    rw [ycl (by omega), nI_1, fr.1 166 (by decide), hrow i (by omega)]
    refine l_ag121 hr h63 hrow hQ m (i + 1) _ (by omega) (zfr_tr fr (zfr_wi (by decide))) (fun j hj => ?_)
    rw [zwi_at]
    by_cases e : j = i
    · rw [if_pos e, e]
    · rw [if_neg e]; exact h j (by omega)
theorem yEv_le : ∀ (s : List Nat) (T : Nat → Int32), yEv H fa s T ≤ s.length
  | [], _ => Nat.le_refl _
  | c :: s, T => by
    have := yEv_le s (ysit H (-1) (H.sh c) fa c T)
    have := Bool.toNat_le (ypas H (-1) (H.sh c) fa T)
    rw [yEv, List.length_cons]
    omega
theorem yst1_0 {q : Nat × List Nat} {s : List Nat} : yst1 H fa S 0 [] q s = if q.1 ≤ yEv H fa s S then (yEv H fa s S + 1, s) else q := by
  unfold yst1
  rw [Nat.zero_add, List.nil_append]
/-- one order after the other -/
theorem l_ag56 {r : Nat} (hH : yOK H) (hB : ySB H S) (hfa : fa = 0 ∨ fa = 1) (hM : yMH H IL0) (hS : yMS 161 S IL0) (h27 : IL0.1 145 27 = -1) (hr : r ≤ 6) (hk5 : H.k ≤ 6) : ∀ (rest : List (List Nat)) (s : List Nat) (q : Nat × List Nat) (IL : zIL) (w4 w5 : Value), (∀ s', s' ∈ s :: rest → s'.length = r ∧ ∀ c, c ∈ s' → c < H.k) → ych r (s :: rest) = true → q.1 ≤ 7 → yfm ypa IL0 IL → IL.1 145 63 = nI r → (∀ j, j < r → IL.1 166 j = nI (s.getD j 0)) → (0 < q.1 → ∀ j, j < r → IL.1 165 j = nI (q.2.getD j 0)) → (∀ IL', yfm ypa IL0 IL' → IL'.1 145 63 = nI r → (0 < ((s :: rest).foldl (yst1 H fa S 0 []) q).1 → ∀ j, j < r → IL'.1 165 j = nI (((s :: rest).foldl (yst1 H fa S 0 []) q).2.getD j 0)) → Q (zFx t, zwi IL' 145 62 (nI r)) (some (.int (nI ((s :: rest).foldl (yst1 H fa S 0 []) q).1 - 1)))) → gX8_agenda xs (d + 5) Q 56 [.ref 145, .int fa, .int (nI q.1 - 1), .int 1, w4, w5] [] (zFx t, IL) := by
  intro rest
  induction rest with
  | nil =>
    intro s q IL w4 w5 hall hch hq7 fr h63 hrow hlie hQ
    obtain ⟨sl, sc⟩ := hall s List.mem_cons_self
    rw [List.foldl_cons, List.foldl_nil, yst1_0] at hQ
    have ev := yEv_le (H := H) (fa := fa) s S
    have hb : ∀ j, j < r → s.getD j 0 ≤ 5 := fun j hj => by
      rw [List.getD_eq_getElem?_getD, List.getElem?_eq_getElem (by omega)]
      have hjl : j < s.length := by omega
      exact Nat.le_of_lt_succ (Nat.lt_of_lt_of_le (sc _ (List.getElem_mem hjl)) hk5)
    have hnx : ynx r (fun j => s.getD j 0) = none := by
      unfold ych at hch
      rw [Bool.and_eq_true_iff] at hch
      have := hch.1
      cases e : ynx r (fun j => s.getD j 0) with
      | none => rfl
      | some g => rw [e] at this; cases this
    have fin : ∀ (M : zIL) (q' : Nat × List Nat) (w4 w5 : Value), yfm ypa IL0 M → M.1 145 63 = nI r → (∀ j, j < r → M.1 166 j = nI (s.getD j 0)) → (if q.1 ≤ yEv H fa s S then (yEv H fa s S + 1, s) else q) = q' → (0 < q'.1 → ∀ j, j < r → M.1 165 j = nI (q'.2.getD j 0)) → zcall xs (d + 5) 231 (zFx t, M) [.ref 145] (zkI (zFx t) fun IL1 y1 => gX8_agenda xs (d + 5) Q 56 [.ref 145, .int fa, .int (nI q'.1 - 1), .int y1, w4, w5] [] (zFx t, IL1)) := fun M q' w4 w5 f m63 mrow e ml => by
      rw [e] at hQ
      refine c_nextRow hr m63 mrow hb (fun _ => kI ?_) (fun g IL' e2 => absurd e2 (by rw [hnx]; exact fun z => by cases z))
      refine sX8_agenda_56 t _ _ _ _ _ M (zdec (fun _ => ?_) (fun z => absurd rfl z))
      rw [m63]
      exact hQ M f m63 ml
    refine sX8_agenda_56 t _ _ _ _ _ IL (zdec (fun z => absurd z (by decide)) (fun _ => ?_))
    have hSI : yMS 161 S IL := fun j hj => by rw [fr.1 161 j rfl]; exact hS j hj
    refine c_fill hSI (fun I1 f1 s1 => kV ?_)
    have g1 : yfm ypa IL0 I1 := yfm_tr fr (yfm_pwa (yfm_fill f1))
    refine l_ag70 (s := s) (S := S) hH hfa (hM.pa g1) (by rw [f1.1 145 (by decide), fr.1 145 27 rfl]; exact h27) hr (by rw [f1.1 145 (by decide)]; exact h63) sl sc (fun j hj => by rw [f1.1 166 (by decide)]; exact hrow j hj) (fun I2 o f2 => ?_) 0 s 0 0 S I1 rfl (by omega) (Nat.zero_add _) yfm_rf s1 hB
    by_cases eo : o = yEv H fa s S
    · left
      subst eo
      have g2 : yfm ypa IL0 I2 := yfm_tr g1 (yfm_pwa f2)
      have m63 : I2.1 145 63 = nI r := by rw [f2.1 145 63 rfl, f1.1 145 (by decide)]; exact h63
      have mrow : ∀ j, j < r → I2.1 166 j = nI (s.getD j 0) := fun j hj => by rw [f2.1 166 j rfl, f1.1 166 (by decide)]; exact hrow j hj
      refine zdec (fun z => ?_) (fun z => ?_)
      · have z' := (y_m1 (by omega) (by omega)).mp z
        refine l_ag121 hr m63 mrow (fun I3 f3 h3 => ?_) r 0 I2 (by omega) zfr_rf (fun j hj => absurd hj (Nat.not_lt_zero j))
        have := fin I3 (yEv H fa s S + 1, s) (.int (nI (yEv H fa s S))) (.int (nI r)) (yfm_tr g2 (yfm_zfr f3 (fun c hc j => by rw [List.mem_singleton.mp hc]; rfl))) (by rw [f3.1 145 (by decide)]; exact m63) (fun j hj => by rw [f3.1 166 (by decide)]; exact mrow j hj) (by rw [if_pos z']) (fun _ j hj => h3 j hj)
        rw [show nI (yEv H fa s S + 1, s).1 - 1 = nI (yEv H fa s S) from nI_pred _] at this
        exact this
      · have z' : ¬ q.1 ≤ yEv H fa s S := fun w => z ((y_m1 (by omega) (by omega)).mpr w)
        exact fin I2 q _ _ g2 m63 mrow (by rw [if_neg z']) (fun hp j hj => by rw [f2.1 165 j rfl, f1.1 165 (by decide)]; exact hlie hp j hj)
    · right
      exact eo
  | cons s2 rest ih =>
    intro s q IL w4 w5 hall hch hq7 fr h63 hrow hlie hQ
    obtain ⟨sl, sc⟩ := hall s List.mem_cons_self
    rw [List.foldl_cons, yst1_0] at hQ
    have ev := yEv_le (H := H) (fa := fa) s S
    have hb : ∀ j, j < r → s.getD j 0 ≤ 5 := fun j hj => by
      rw [List.getD_eq_getElem?_getD, List.getElem?_eq_getElem (by omega)]
      have hjl : j < s.length := by omega
      exact Nat.le_of_lt_succ (Nat.lt_of_lt_of_le (sc _ (List.getElem_mem hjl)) hk5)
    unfold ych at hch
    rw [Bool.and_eq_true_iff] at hch
    obtain ⟨hnb, hch2⟩ := hch
    obtain ⟨g, hg, hgm⟩ : ∃ g, ynx r (fun j => s.getD j 0) = some g ∧ (List.range r).map g = s2 := by
      have hnb : ynb r s s2 = true := hnb
      unfold ynb at hnb
      cases e : ynx r (fun j => s.getD j 0) with
      | none => rw [e] at hnb; cases hnb
      | some g => rw [e] at hnb; exact ⟨g, rfl, of_decide_eq_true hnb⟩
    have fin : ∀ (M : zIL) (q' : Nat × List Nat) (w4 w5 : Value), yfm ypa IL0 M → M.1 145 63 = nI r → (∀ j, j < r → M.1 166 j = nI (s.getD j 0)) → (if q.1 ≤ yEv H fa s S then (yEv H fa s S + 1, s) else q) = q' → q'.1 ≤ 7 → (0 < q'.1 → ∀ j, j < r → M.1 165 j = nI (q'.2.getD j 0)) → zcall xs (d + 5) 231 (zFx t, M) [.ref 145] (zkI (zFx t) fun IL1 y1 => gX8_agenda xs (d + 5) Q 56 [.ref 145, .int fa, .int (nI q'.1 - 1), .int y1, w4, w5] [] (zFx t, IL1)) := fun M q' w4 w5 f m63 mrow e q7 ml => by
      rw [e] at hQ
      refine c_nextRow hr m63 mrow hb (fun e2 => absurd e2 (by rw [hg]; exact fun z => by cases z)) (fun g' IL' e2 f' hr' => kI ?_)
      rw [hg] at e2
      cases e2
      refine ih s2 q' IL' _ _ (fun s' hs' => hall s' (List.mem_cons_of_mem _ hs')) hch2 q7 (yfm_tr f (yfm_166 f')) (by rw [f'.1 145 (by decide)]; exact m63) (fun j hj => by rw [hr' j hj, y_gd hgm hj]) (fun hp j hj => by rw [f'.1 165 (by decide)]; exact ml hp j hj) hQ
    refine sX8_agenda_56 t _ _ _ _ _ IL (zdec (fun z => absurd z (by decide)) (fun _ => ?_))
    have hSI : yMS 161 S IL := fun j hj => by rw [fr.1 161 j rfl]; exact hS j hj
    refine c_fill hSI (fun I1 f1 s1 => kV ?_)
    have g1 : yfm ypa IL0 I1 := yfm_tr fr (yfm_pwa (yfm_fill f1))
    refine l_ag70 (s := s) (S := S) hH hfa (hM.pa g1) (by rw [f1.1 145 (by decide), fr.1 145 27 rfl]; exact h27) hr (by rw [f1.1 145 (by decide)]; exact h63) sl sc (fun j hj => by rw [f1.1 166 (by decide)]; exact hrow j hj) (fun I2 o f2 => ?_) 0 s 0 0 S I1 rfl (by omega) (Nat.zero_add _) yfm_rf s1 hB
    by_cases eo : o = yEv H fa s S
    · left
      subst eo
      have g2 : yfm ypa IL0 I2 := yfm_tr g1 (yfm_pwa f2)
      have m63 : I2.1 145 63 = nI r := by rw [f2.1 145 63 rfl, f1.1 145 (by decide)]; exact h63
      have mrow : ∀ j, j < r → I2.1 166 j = nI (s.getD j 0) := fun j hj => by rw [f2.1 166 j rfl, f1.1 166 (by decide)]; exact hrow j hj
      refine zdec (fun z => ?_) (fun z => ?_)
      · have z' := (y_m1 (by omega) (by omega)).mp z
        refine l_ag121 hr m63 mrow (fun I3 f3 h3 => ?_) r 0 I2 (by omega) zfr_rf (fun j hj => absurd hj (Nat.not_lt_zero j))
        have := fin I3 (yEv H fa s S + 1, s) (.int (nI (yEv H fa s S))) (.int (nI r)) (yfm_tr g2 (yfm_zfr f3 (fun c hc j => by rw [List.mem_singleton.mp hc]; rfl))) (by rw [f3.1 145 (by decide)]; exact m63) (fun j hj => by rw [f3.1 166 (by decide)]; exact mrow j hj) (by rw [if_pos z']) (by show yEv H fa s S + 1 ≤ 7; omega) (fun _ j hj => h3 j hj)
        rw [show nI (yEv H fa s S + 1, s).1 - 1 = nI (yEv H fa s S) from nI_pred _] at this
        exact this
      · have z' : ¬ q.1 ≤ yEv H fa s S := fun w => z ((y_m1 (by omega) (by omega)).mpr w)
        exact fin I2 q _ _ g2 m63 mrow (by rw [if_neg z']) hq7 (fun hp j hj => by rw [f2.1 165 j rfl, f1.1 165 (by decide)]; exact hlie hp j hj)
    · right
      exact eo
theorem l_ag7 {x1 : Int32} {u : Nat} (hH : yOK H) (hM : yMH H IL0) (hr8 : IL0.1 161 8 = nI u) (hQ : ∀ (IL' : zIL) (w3 w4 w5 : Value), yfm ypa IL0 IL' → IL'.1 165 = IL0.1 165 → IL'.1 145 63 = nI ((List.range H.k).filter (fun c => !u.testBit c)).length → (∀ j, j < ((List.range H.k).filter (fun c => !u.testBit c)).length → IL'.1 166 j = nI (((List.range H.k).filter (fun c => !u.testBit c)).getD j 0)) → gX8_agenda xs (d + 5) Q 56 [.ref 145, .int x1, .int (-1), .int 1, w4, w5] [] (zFx t, IL')) : ∀ (m i : Nat) (IL : zIL) (w3 w4 w5 : Value), i + m = H.k → yfm ypa IL0 IL → IL.1 165 = IL0.1 165 → IL.1 145 63 = nI ((List.range i).filter (fun c => !u.testBit c)).length → (∀ j, j < ((List.range i).filter (fun c => !u.testBit c)).length → IL.1 166 j = nI (((List.range i).filter (fun c => !u.testBit c)).getD j 0)) → gX8_agenda xs (d + 5) Q 7 [.ref 145, .int x1, .int (nI i), w3, w4, w5] [] (zFx t, IL)
  | 0, i, IL, w3, w4, w5, hi, fr, h165, h63, hrow => by
    have k6 := hH.k6
    have e : i = H.k := by omega
    subst e
    exact sX8_agenda_7 t _ _ _ _ _ IL (zd_f (hM.pa fr).cla (by omega) (by omega) (hQ IL w3 w4 w5 fr h165 h63 hrow))
  | m + 1, i, IL, w3, w4, w5, hi, fr, h165, h63, hrow => by
    have k6 := hH.k6
    have e8 : IL.1 161 8 = nI u := by rw [fr.1 161 8 rfl]; exact hr8
    have eb : bt (nI u) i = u.testBit i := bt_nI (by omega)
    have ll : ((List.range i).filter (fun c => !u.testBit c)).length ≤ i := Nat.le_trans (List.length_filter_le _ _) (by rw [List.length_range]; exact Nat.le_refl _)
    have fs : (List.range (i + 1)).filter (fun c => !u.testBit c) = (List.range i).filter (fun c => !u.testBit c) ++ (if u.testBit i then [] else [i]) := by
      rw [List.range_succ, List.filter_append]
      congr 1
      cases q : u.testBit i
      · rw [List.filter_cons_of_pos (by rw [q]; rfl)]; rfl
      · rw [List.filter_cons_of_neg (by rw [q]; decide)]; rfl
    refine sX8_agenda_7 t _ _ _ _ _ IL (zd_t (hM.pa fr).cla (by omega) (by omega) (c_isRead (by omega) (fun hb => kI (z0 ?_)) (fun hb => kI (z1 ?_))))
    · rw [e8, eb] at hb
      rw [hb, if_neg (by decide)] at fs
      rw [h63]
      refine zix_n (by omega) (by omega) ?_
      rw [ycl (by omega), zwi_ne (show 145 ≠ 166 by decide), h63, nI_1, nI_1]
      refine l_ag7 hH hM hr8 hQ m (i + 1) _ w3 w4 w5 (by omega) (yfm_tr fr (yfm_tr (yfm_wi rfl) (yfm_wi rfl))) (by rw [zwi_ne (by decide), zwi_ne (by decide)]; exact h165) ?_ (fun j hj => ?_)
      · rw [zwi_at, if_pos rfl, fs, List.length_append]
        rfl
      · rw [zwi_ne (by decide), zwi_at, fs, List.getD_eq_getElem?_getD]
        rw [fs, List.length_append] at hj
        have hj' : j < ((List.range i).filter (fun c => !u.testBit c)).length + 1 := hj
        by_cases q : j = ((List.range i).filter (fun c => !u.testBit c)).length
        · rw [if_pos q, q, List.getElem?_append_right (Nat.le_refl _), Nat.sub_self]
          rfl
        · rw [if_neg q, List.getElem?_append_left (by omega), ← List.getD_eq_getElem?_getD]
          exact hrow j (by omega)
    · rw [e8, eb] at hb
      rw [hb, if_pos rfl, List.append_nil] at fs
      rw [nI_1]
      exact l_ag7 hH hM hr8 hQ m (i + 1) IL w3 w4 w5 (by omega) fr h165 (by rw [fs]; exact h63) (fun j hj => by rw [fs] at hj ⊢; exact hrow j hj)
theorem m_agenda (hI : yI X) (hM : yM X IL) (hfa : fa = 0 ∨ fa = 1) (hQ : ∀ IL', yM (x_agenda X fa) IL' → (∀ c, c < 145 → IL'.1 c = IL.1 c) → IL'.2 = IL.2 → Q (zFx t, IL') (some (.int (r_agenda X fa)))) : zcall xs (d + 6) 233 (zFx t, IL) [.ref 145, .int fa] Q := by
  have k6 := hI.H.k6
  obtain ⟨u1, u2⟩ := yuS_e hI.H hI.S
  obtain ⟨pk, hd, hall, hch⟩ := yok_1 hI.H hI.S
  have l6 : ylS X.H X.S ≤ 6 := by unfold ylS; omega
  have hp := yAg_pos (fa := fa) hI.H hI.S
  unfold x_agenda r_agenda at hQ
  have eAg : yAg X.H X.S fa = (yLv X.H.k (ylS X.H X.S) (yuS X.S)).foldl (yst1 X.H fa X.S 0 []) (0, []) := by unfold yAg; rw [yG_fold]
  rw [eAg] at hQ hp
  refine sX8_agenda t _ IL ?_
  have f0 : yfm ypa IL (zwi IL 145 63 0) := yfm_wi rfl
  have hM0 := hM.H.pa f0
  have hS0 : yMS 161 X.S (zwi IL 145 63 0) := hM.S.fr (zwi_ne (by decide))
  generalize yLv X.H.k (ylS X.H X.S) (yuS X.S) = L at hQ hp hd hall hch
  cases L with
  | nil => cases hd
  | cons s rest =>
    have es : s = (List.range X.H.k).filter (fun c => !(yuS X.S).testBit c) := by
      have := hd
      rw [List.head?_cons] at this
      exact Option.some.inj this
    refine l_ag7 (u := yuS X.S) hI.H hM0 (by rw [hS0 8 (by decide)]; exact u2) (fun I1 w3 w4 w5 f1 h165 h63 hrow => ?_) X.H.k 0 _ _ _ _ (by omega) yfm_rf rfl (by rw [zwi_at, if_pos rfl]; rfl) (fun j hj => absurd hj (Nat.not_lt_zero j))
    rw [← es] at h63 hrow
    have sl := (hall s List.mem_cons_self).1
    rw [sl] at h63 hrow
    refine l_ag56 (S := X.S) (r := ylS X.H X.S) hI.H hI.S hfa hM0 hS0 (by rw [zwi_at, if_neg (by decide)]; exact hM.m27) l6 k6 rest s (0, []) I1 w4 w5 hall hch (by show 0 ≤ 7; omega) f1 h63 hrow (fun h => absurd h (Nat.lt_irrefl 0)) (fun I2 f2 h63' hl => ?_)
    have f := yfm_tr f0 f2
    have kc : ∀ c j, yms c j = false → c ≠ 165 → ¬ (c = 145 ∧ j = 62) → (zwi I2 145 62 (nI (ylS X.H X.S))).1 c j = IL.1 c j := fun c j h1 h2 h3 => by
      have : ypa c j = false := by
        unfold yms at h1
        unfold ypa ypw
        simp only [Bool.or_eq_false_iff, Bool.and_eq_false_iff, beq_eq_false_iff_ne] at h1 ⊢
        omega
      by_cases q : c = 145
      · subst q
        rw [zwi_at, if_neg (by omega)]
        exact f.1 145 j this
      · rw [zwi_ne q]
        exact f.1 c j this
    refine hQ _ (hM.lies (fun c j h1 h2 h3 h4 => kc c j h2 h3 h4) ?_ (by rw [zwi_at, if_pos rfl]) (fun j hj => ?_)) (fun c hc => funext (fun j => kc c j (yms_lo hc j) (by omega) (by omega))) (by show I2.2 = _; rw [f.2])
    · rw [zwi_at, if_neg (by decide), f.1 145 27 rfl]; exact hM.m27
    · rw [zwi_ne (by decide)]; exact hl hp j hj
end MAGENDA
