/-! the class's house() -/
abbrev gX7_house (xs : List Int32) (d : Nat) (Q : zQ) : zX := zgo xs (zcall xs d) 179 7611 kX7_house Q
section CHSEG
variable {xs : List Int32} {d : Nat} {Q : zQ}
theorem hc_0 (t : Bool) (IL : zIL) (hh : (zcall xs d 42 (zFx t, IL) [.ref (zH (!t))] (zkV (zFx t) fun IL1 => (zcall xs d 56 (zFx t, IL1) [.ref 1, .ref (zH (!t))] (zkI (zFx t) fun IL2 y => (zif2 (decide ((y : Int32) = 0)) (Q (zFx t, (zwi IL2 1 0 0)) (some (.int (-1)))) (gX7_house xs d Q 33 [.ref 0, .int y, .retAddr 0] [] (zFx t, (zwi IL2 1 0 0))))))))) : zcall xs (d + 1) 89 (zFx t, IL) [.ref 0] Q := (show gX7_house xs d Q 0 [.ref 0, .retAddr 0, .retAddr 0] [] (zFx t, IL) from by cases t <;> exact zseg (zcall_m xs d) 20 [33] hh)
theorem hc_33 (t : Bool) (y : Int32) (IL : zIL) (hh : gX7_house xs d Q 51 [.ref 0, .int y, .ref (zH t)] [] (zwR (zwR (zFx t, IL) 0 1 (some (zH (!t)))) 0 2 (some (zH t)))) : gX7_house xs d Q 33 [.ref 0, .int y, .retAddr 0] [] (zFx t, IL) := zseg (zcall_m xs d) 12 [51] hh
theorem hc_51 (u : Bool) (y : Int32) (h : Nat) (IL : zIL) (hh : zcall xs d 79 (zFx u, IL) [.ref 22, .ref (zH u)] (zkV (zFx u) fun I1 => zcall xs d 35 (zFx u, I1) [.ref 26] (zkV (zFx u) fun I2 => zcall xs d 27 (zFx u, I2) [.ref 128, .ref (zH u)] (zkV (zFx u) fun I3 => Q (zFx u, zwi (zwi I3 0 9 0) 0 11 0) (some (.int ((zwi (zwi I3 0 9 0) 0 11 0).1 (zH u) 0))))))) : gX7_house xs d Q 51 [.ref 0, .int y, .ref h] [] (zFx u, IL) := by cases u <;> exact zseg (zcall_m xs d) 32 [] hh
end CHSEG
theorem zsw_R (t : Bool) : zup (zup (fun c j => ((zrl t).getD c []).getD j none) 0 1 (some (zH (!t)))) 0 2 (some (zH t)) = fun c j => ((zrl (!t)).getD c []).getD j none := by
  funext c j
  cases c with
  | zero =>
    match j with
    | 0 => cases t <;> rfl
    | 1 => cases t <;> rfl
    | 2 => cases t <;> rfl
    | j + 3 =>
      rw [zup_at, if_neg (by omega), zup_at, if_neg (by omega)]
      cases t <;> rfl
  | succ c =>
    rw [zup_ne (by omega), zup_ne (by omega)]
    cases t <;> rfl
theorem zsw_F (t : Bool) (IL : zIL) : zwR (zwR (zFx t, IL) 0 1 (some (zH (!t)))) 0 2 (some (zH t)) = (zFx (!t), IL) := by
  show ((179, 7611, (fun c => zshl.getD c (.inr (9, 0))), zup (zup (fun c j => ((zrl t).getD c []).getD j none) 0 1 (some (zH (!t)))) 0 2 (some (zH t))), IL.1, IL.2) = (zFx (!t), IL)
  rw [zsw_R]
  rfl
theorem zH_two (t : Bool) : zH t + 8 ≤ zH (!t) ∨ zH (!t) + 8 ≤ zH t := by cases t <;> decide
section CHOUSE
variable {xs : List Int32} {d : Nat} {Q : zQ} {t u : Bool} {IL : zIL} {X : yX} {H : yH}
theorem c_clearH (hQ : ∀ IL', (∀ c j, ¬ (zH u ≤ c ∧ c ≤ zH u + 7) → IL'.1 c j = IL.1 c j) → IL'.2 = IL.2 → yCH u yH0 IL' → Q (zFx t, IL') none) : zcall xs (d + 2) 42 (zFx t, IL) [.ref (zH u)] Q := by
  refine sX4_clear t u IL (sX1_clear t u _ (kV (hQ _ (fun c j z => ?_) rfl ?_)))
  · rw [ywi_o (by omega), ywi_o (by omega), ywi_o (by omega), ywi_o (by omega), ywi_o (by omega), ywi_o (by omega), ywi_o (by omega), ywi_o (by omega), ywi_o (by omega)]
  · refine yCH.mk ?_ ?_ ?_ ?_ ?_ ?_ ?_ (fun j hj => absurd hj (Nat.not_lt_zero j)) (fun j hj => absurd hj (Nat.not_lt_zero j)) (fun j hj => absurd hj (Nat.not_lt_zero j)) ?_ ?_ (fun j hj => absurd hj (Nat.not_lt_zero j))
    · rw [ywi_o (by omega), ywi_o (by omega), ywi_o (by omega), ywi_o (by omega), ywi_o (by omega), ywi_o (by omega), ywi_o (by omega), ywi_o (by omega), ywi_s]; rfl
    · rw [ywi_o (by omega), ywi_o (by omega), ywi_o (by omega), ywi_o (by omega), ywi_o (by omega), ywi_o (by omega), ywi_o (by omega), ywi_s]; rfl
    · rw [ywi_o (by omega), ywi_o (by omega), ywi_o (by omega), ywi_o (by omega), ywi_o (by omega), ywi_o (by omega), ywi_s]; rfl
    · rw [ywi_o (by omega), ywi_o (by omega), ywi_o (by omega), ywi_o (by omega), ywi_o (by omega), ywi_s]; rfl
    · rw [ywi_o (by omega), ywi_o (by omega), ywi_o (by omega), ywi_o (by omega), ywi_s]; rfl
    · rw [ywi_o (by omega), ywi_o (by omega), ywi_o (by omega), ywi_s]; rfl
    · rw [ywi_o (by omega), ywi_o (by omega), ywi_s]; rfl
    · rw [ywi_o (by omega), ywi_s]; rfl
    · rw [ywi_s]; rfl
theorem l_fill7 {IL0 : zIL} (hQ : ∀ J, zfr [23] IL0 J → (∀ j, j < 7 → J.1 23 j = 0) → Q (zFx t, J) none) : ∀ (k i : Nat) (J : zIL), i + k = 7 → zfr [23] IL0 J → (∀ j, j < i → J.1 23 j = 0) → gJ7_fill_53178 xs d Q 5 [.ref 23, .int 0, .int (nI i), .int (nI 7)] [] (zFx t, J)
  | 0, i, J, hi, fr, h => sJ7_fill_53178_5 t _ _ _ J (zd_f (n := 7) rfl (by omega) (by omega) (hQ J fr (fun j hj => h j (by omega))))
  | k + 1, i, J, hi, fr, h => by
    refine sJ7_fill_53178_5 t _ _ _ J (zd_t (n := 7) rfl (by omega) (by omega) (zix_n (by omega) (by decide) ?_))
    rw [nI_1, ycl (by omega)]
    refine l_fill7 hQ k (i + 1) _ (by omega) (zfr_tr fr (zfr_wi (by decide))) (fun j hj => ?_)
    rw [zwi_at]
    by_cases e : j = i
    · rw [if_pos e]
    · rw [if_neg e, h j (by omega)]
theorem c_begin (hC : yCH u H IL) (hQ : ∀ IL', (∀ c, c ≠ 22 → c ≠ 23 → IL'.1 c = IL.1 c) → IL'.2 = IL.2 → yCS 22 (yS0 H) IL' → Q (zFx t, IL') none) : zcall xs (d + 2) 79 (zFx t, IL) [.ref 22, .ref (zH u)] Q := by
  have g := zH_ge u
  have g2 := zH_le u
  refine sX6_begin t u IL (sJ7_fill_53178 t 0 IL (l_fill7 (IL0 := IL) (fun J f z => kV ?_) 7 0 IL (by omega) zfr_rf (fun j hj => absurd hj (Nat.not_lt_zero j))))
  have f' : ∀ c, c ≠ 23 → J.1 c = IL.1 c := fun c a => f.1 c (by simp [a])
  rw [ywi_o (by omega), ywi_o (by omega), ywi_o (by omega), f' (zH u) (by omega), hC.out, hC.draw]
  refine hQ _ (fun c a b => ?_) f.2 ⟨fun j hj => ?_, ?_, ?_, ?_, ?_⟩
  · rw [zwi_ne a, zwi_ne a, zwi_ne a, zwi_ne a]; exact f' c b
  · rw [zwi_ne (by decide), zwi_ne (by decide), zwi_ne (by decide), zwi_ne (by decide)]
    rw [show (22 + 1 : Nat) = 23 from rfl, z j hj]
    unfold yS0
    rw [if_neg (by omega), if_neg (by omega)]
  · rw [ywi_o (by decide), ywi_o (by decide), ywi_o (by decide), ywi_s]; rfl
  · rw [ywi_o (by decide), ywi_o (by decide), ywi_s]; rfl
  · rw [ywi_o (by decide), ywi_s]; rfl
  · rw [ywi_s]; rfl
theorem l_track {v : Nat} {IL0 : zIL} (hH : yOK H) (hn : 0 < H.n) (hv : v ≤ 20) (hC : yCH u H IL0) (hQ : ∀ J, zfr [134, zH u + 5, zH u + 7] IL0 J → (∀ j, (j < 7 * v ∨ 7 * v + 7 ≤ j) → J.1 134 j = IL0.1 134 j) → (∀ j, j < 7 → J.1 134 (7 * v + j) = ytr H (nI v) j) → Q (zFx t, J) none) : ∀ (k i : Nat) (J : zIL), i + k = 7 → zfr [134, zH u + 5, zH u + 7] IL0 J → (∀ j, (j < 7 * v ∨ 7 * v + 7 ≤ j) → J.1 134 j = IL0.1 134 j) → (∀ j, j < i → J.1 134 (7 * v + j) = ytr H (nI v) j) → gX2_track xs (d + 3) Q 6 [.ref 128, .ref (zH u), .int (nI (H.n - 1)), .int (nI v), .int (ytr H (nI v) i), .int (nI i)] [] (zFx t, J)
  | 0, i, J, hi, fr, fo, h => sX2_track_6 t u _ _ _ _ J (zd_f (n := 7) rfl (by omega) (by omega) (hQ J fr fo (fun j hj => h j (by omega))))
  | k + 1, i, J, hi, fr, fo, h => by
    have g := zH_ge u
    have g2 := zH_le u
    have n7 := hH.n7
    have k6 := hH.k6
    refine sX2_track_6 t u _ _ _ _ J (zd_t (n := 7) rfl (by omega) (by omega) ?_)
    rw [y_v7]
    refine zix_n (by omega) (by decide) ?_
    rw [ycl (by omega), nI_1]
    have fr2 : zfr [134, zH u + 5, zH u + 7] IL0 (zwi J 134 (7 * v + i) (ytr H (nI v) i)) := zfr_tr fr (zfr_wi (by simp))
    have fo2 : ∀ j, (j < 7 * v ∨ 7 * v + 7 ≤ j) → (zwi J 134 (7 * v + i) (ytr H (nI v) i)).1 134 j = IL0.1 134 j := fun j hj => by
      rw [zwi_at, if_neg (by omega)]; exact fo j hj
    have h2 : ∀ j, j < i + 1 → (zwi J 134 (7 * v + i) (ytr H (nI v) i)).1 134 (7 * v + j) = ytr H (nI v) j := fun j hj => by
      rw [zwi_at]
      by_cases e : j = i
      · rw [if_pos (by omega), e]
      · rw [if_neg (by omega)]; exact h j (by omega)
    generalize zwi J 134 (7 * v + i) (ytr H (nI v) i) = K at fr2 fo2 h2
    have hK : yCH u H K := hC.fr (fun a a1 a2 a3 => fr2.1 _ (by simp; omega))
    rw [hK.cla]
    by_cases q : i < H.k
    · refine zd_t (n := H.k) rfl q (by omega) (zd_t (n := 6) rfl (by omega) (by omega) (zix_n (by omega) (by decide) ?_))
      rw [ycl (by omega), hK.sh i q]
      refine c_windOf (d := d) (vo := H.vo (H.n - 1)) hH.ss (by omega) hK.len hK.ss (hK.vo _ (by omega)) (fun I1 f1 => kI ?_)
      have f1' : ∀ c, c ≠ zH u + 5 → c ≠ zH u + 7 → I1.1 c = K.1 c := fun c a b => f1.1 c (by simp [a, b])
      have fr3 : zfr [134, zH u + 5, zH u + 7] IL0 I1 := ⟨fun c a => by
        have a' : c ≠ 134 ∧ c ≠ zH u + 5 ∧ c ≠ zH u + 7 := by simpa using a
        rw [f1' c a'.2.1 a'.2.2]; exact fr2.1 c a, by rw [f1.2]; exact fr2.2⟩
      have e134 : I1.1 134 = K.1 134 := f1' 134 (by omega) (by omega)
      rw [f1' (zH u) (by omega) (by omega), hK.cock]
      have e1 : ytr H (nI v) (i + 1) = if ynw (ytr H (nI v) i) (zwv H.ss (H.sh i) (nI v) (H.vo (H.n - 1)) (ytr H (nI v) i) 0 (nI i)) < H.cock then ynw (ytr H (nI v) i) (zwv H.ss (H.sh i) (nI v) (H.vo (H.n - 1)) (ytr H (nI v) i) 0 (nI i)) else 0 := by
        rw [ytr_s]
        unfold ytr1
        rw [if_pos q]
      have ih := l_track hH hn hv hC hQ k (i + 1) I1 (by omega) fr3 (fun j hj => by rw [e134]; exact fo2 j hj) (fun j hj => by rw [e134]; exact h2 j hj)
      refine zdec (fun z => ?_) (fun z => ?_)
      · rw [e1, if_pos (show ynw (ytr H (nI v) i) (zwv H.ss (H.sh i) (nI v) (H.vo (H.n - 1)) (ytr H (nI v) i) 0 (nI i)) < H.cock from z)] at ih; exact ih
      · rw [e1, if_neg (show ¬ ynw (ytr H (nI v) i) (zwv H.ss (H.sh i) (nI v) (H.vo (H.n - 1)) (ytr H (nI v) i) 0 (nI i)) < H.cock from z)] at ih; exact ih
    · refine zd_f (n := H.k) rfl (by omega) (by omega) ?_
      have e1 : ytr H (nI v) (i + 1) = ytr H (nI v) i := by
        rw [ytr_s]
        unfold ytr1
        rw [if_neg q]
      have ih := l_track hH hn hv hC hQ k (i + 1) K (by omega) fr2 fo2 h2
      rw [e1] at ih
      exact ih
theorem l_restart {IL0 : zIL} (hH : yOK H) (hC : yCH u H IL0) (hp : yope H = true) (hQ : ∀ J, zfr [134, zH u + 5, zH u + 7] IL0 J → (∀ v n, v ≤ 20 → n ≤ 6 → J.1 134 (7 * v + n) = ytr H (nI v) n) → Q (zFx t, J) none) (h2 : IL0.1 128 2 = 1) : ∀ (k v : Nat) (J : zIL), v + k = 21 → zfr [134, zH u + 5, zH u + 7] IL0 J → (∀ w n, w < v → n ≤ 6 → J.1 134 (7 * w + n) = ytr H (nI w) n) → gX2_restart xs (d + 4) Q 38 [.ref 128, .ref (zH u), .int (nI (H.n - 1)), .int (nI v)] [] (zFx t, J)
  | 0, v, J, hi, fr, h => by
    refine sX2_restart_38 t u _ _ J (zln (k := 20) rfl rfl (by decide) (by omega) (fun _ => hQ J fr (fun w n hw hn => h w n (by omega) hn)) (fun z => by omega))
  | k + 1, v, J, hi, fr, h => by
    have g := zH_ge u
    have g2 := zH_le u
    have hn : 0 < H.n := by
      unfold yope at hp
      rw [Bool.and_eq_true] at hp
      exact of_decide_eq_true hp.1
    have e2 : J.1 128 2 = 1 := by rw [fr.1 128 (by simp; omega)]; exact h2
    have hJ : yCH u H J := hC.fr (fun a a1 a2 a3 => fr.1 _ (by simp; omega))
    refine sX2_restart_38 t u _ _ J (zln (k := 20) rfl rfl (by decide) (by omega) (fun z => by omega) (fun _ => zdec (fun z => absurd z (by rw [e2]; decide)) (fun _ => ?_)))
    refine sX2_track t u _ _ J (l_track (d := d) (v := v) hH hn (by omega) hJ (fun K f fo ft => kV ?_) 7 0 J (by omega) zfr_rf (fun _ _ => rfl) (fun j hj => absurd hj (Nat.not_lt_zero j)))
    rw [nI_1]
    refine l_restart hH hC hp hQ h2 k (v + 1) K (by omega) (zfr_tr fr f) (fun w n hw hn' => ?_)
    by_cases e : w = v
    · rw [e]; exact ft n (by omega)
    · rw [fo _ (by omega)]; exact h w n (by omega) hn'
theorem c_restart (hH : yOK H) (hC : yCH u H IL) (hQ : ∀ IL', (∀ c j, c ≠ 134 → c ≠ zH u + 5 → c ≠ zH u + 7 → ¬ (c = 128 ∧ (j = 0 ∨ j = 2)) → IL'.1 c j = IL.1 c j) → IL'.2 = IL.2 → IL'.1 128 0 = 0 → IL'.1 128 2 = (if yope H then 1 else 0) → (yope H = true → ∀ v n, v ≤ 20 → n ≤ 6 → IL'.1 134 (7 * v + n) = ytr H (nI v) n) → Q (zFx t, IL') none) : zcall xs (d + 5) 27 (zFx t, IL) [.ref 128, .ref (zH u)] Q := by
  have g := zH_ge u
  have g2 := zH_le u
  have n7 := hH.n7
  refine sX2_restart t u IL ?_
  rw [zwi_ne (show zH u ≠ 128 by omega), hC.mem, hC.out]
  -- both ends
  have off : ∀ x, yope H = false → gX2_restart xs (d + 4) Q 38 [.ref 128, .ref (zH u), .int x, .int 0] [] (zFx t, zwi (zwi IL 128 0 0) 128 2 0) := fun x hp => by
    refine sX2_restart_38 t u _ _ _ (zdec (fun z => absurd z (by decide)) (fun _ => zdec (fun _ => hQ _ (fun c j a b e z => ?_) rfl ?_ ?_ (fun z => by rw [hp] at z; cases z)) (fun z => absurd (by rw [ywi_s]) z)))
    · rw [ywi_o (by omega), ywi_o (by omega)]
    · rw [ywi_o (by decide), ywi_s]
    · rw [ywi_s, hp]; rfl
  by_cases q : H.n = 0
  · refine zdec (fun _ => off _ ?_) (fun z => absurd (by rw [q]; decide) z)
    unfold yope
    rw [q]; rfl
  · have e1 : nI H.n - 1 = nI (H.n - 1) := by
      obtain ⟨m, hm⟩ : ∃ m, H.n = m + 1 := ⟨H.n - 1, by omega⟩
      rw [hm]; exact nI_pred m
    rw [e1]
    refine zdec (fun z => absurd z (nI_pos (by omega))) (fun _ => c_has (d := d + 3) (by omega) (fun b => kI (z0 (off _ ?_))) (fun b => kI (z1 ?_)))
    · unfold yope; rw [b, Bool.and_false]
    · have hp : yope H = true := by unfold yope; rw [b, Bool.and_true]; exact decide_eq_true (by omega)
      have f0 : ∀ c j, ¬ (c = 128 ∧ (j = 0 ∨ j = 2)) → (zwi (zwi IL 128 0 0) 128 2 1).1 c j = IL.1 c j := fun c j z => by rw [ywi_o (by omega), ywi_o (by omega)]
      have w0 : (zwi (zwi IL 128 0 0) 128 2 1).1 128 0 = 0 := by rw [ywi_o (by decide), ywi_s]
      have w2 : (zwi (zwi IL 128 0 0) 128 2 1).1 128 2 = 1 := ywi_s
      have wl : (zwi (zwi IL 128 0 0) 128 2 1).2 = IL.2 := rfl
      generalize zwi (zwi IL 128 0 0) 128 2 1 = K at f0 w0 w2 wl
      have hK : yCH u H K := hC.fr (fun a a1 a2 a3 => funext (fun j => f0 _ j (by omega)))
      refine l_restart (d := d) hH hK hp (fun J f tr => hQ J (fun c j a b e z => ?_) (by rw [f.2, wl]) ?_ ?_ (fun _ => tr)) w2 21 0 K (by omega) zfr_rf (fun w n hw => absurd hw (Nat.not_lt_zero w))
      · rw [f.1 c (by simp [a, b, e])]; exact f0 c j z
      · rw [f.1 128 (by simp; omega)]; exact w0
      · rw [f.1 128 (by simp; omega), w2, hp]; rfl
theorem c_house {D : Nat} (hD : 55 ≤ D) (hI : yI X) (hC : yC t X IL) (hQ : ∀ t' IL', yC t' (x_house X) IL' → (∀ c, 145 ≤ c → IL'.1 c = IL.1 c) → (∀ c, 145 ≤ c → IL'.2 c = IL.2 c) → Q (zFx t', IL') (some (.int (r_house X)))) : zcall xs (D + 1) 89 (zFx t, IL) [.ref 0] Q := by
  have hB : ∀ j, j < X.len → yB X j < 256 := fun j hj => (yB_ok hI j hj).1
  have rI := yRs_I hI
  have g := zH_ge (!t)
  have g2 := zH_le (!t)
  have g3 := zH_ge t
  have g4 := zH_le t
  have gt := zH_two t
  obtain ⟨D, rfl⟩ : ∃ D', D = D' + 5 := ⟨D - 5, by omega⟩
  refine hc_0 t IL (c_clearH (d := D + 3) (u := !t) (fun I1 f1 l1 H1 => kV ?_))
  have tp1 : ytp X.len (yB X) I1 := ⟨by rw [f1 1 0 (by omega)]; exact hC.len, fun j hj => by rw [f1 2 j (by omega), (yB_ok hI j hj).2]; exact hC.tape j hj, fun w hw => by rw [l1]; exact hC.cod w hw⟩
  unfold x_house r_house at hQ
  have main : ∀ I2, yfL (!t) I1 I2 → (∀ c j, ¬ (c = 1 ∧ (j = 0 ∨ j = 1 ∨ j = 2 ∨ (6 ≤ j ∧ j ≤ 10))) → ¬ (zH (!t) ≤ c ∧ c ≤ zH (!t) + 7) → (zwi I2 1 0 0).1 c j = IL.1 c j) ∧ (∀ c j, ¬ (c = 1 ∧ j = 11) → c ≠ 3 → c ≠ 4 → (zwi I2 1 0 0).2 c j = IL.2 c j) := fun I2 f2 => by
    refine ⟨fun c j z1 z2 => ?_, fun c j z1 z2 z3 => ?_⟩
    · rw [ywi_o (by omega), f2.1 c j (by omega) z2]; exact f1 c j z2
    · show I2.2 c j = _
      rw [f2.2 c j z1 z2 z3, l1]
  refine c_tell (u := !t) hI.len hB hD tp1 H1 ?_ ?_
  · intro I2 f2 q0 Z2
    have q : (yRs X).1 = 0 := q0
    have Z2' : yZC (!t) (yB X) X.len (yRs X).2 I2 := Z2
    clear q0 Z2
    have zI := rI.2.2 q
    rw [if_pos q, if_pos q] at hQ
    generalize (yRs X).2 = Z at hQ Z2' zI
    have hO := zI.2.2.2.2.2.1
    obtain ⟨m1, m2⟩ := main I2 f2
    have w0 : (zwi I2 1 0 0).1 1 0 = 0 := ywi_s
    have w1 : (zwi I2 1 0 0).1 1 1 = 0 := by rw [ywi_o (by decide)]; exact Z2'.2.2.1
    have w2 : (zwi I2 1 0 0).1 1 2 = -1 := by rw [ywi_o (by decide)]; exact Z2'.2.1.2.2.2.2.2
    have CH3 : yCH (!t) Z.H (zwi I2 1 0 0) := Z2'.2.2.2.2.2.2.fr (fun a a1 a2 a3 => zwi_ne (by omega))
    refine kI (z1 (hc_33 t 1 _ ?_))
    generalize zwi I2 1 0 0 = J at m1 m2 w0 w1 w2 CH3 ⊢
    rw [zsw_F]
    refine hc_51 (!t) 1 (zH t) J (c_begin (d := D + 3) CH3 (fun I4 f4 l4 S4 => kV ?_))
    have CH4 : yCH (!t) Z.H I4 := CH3.fr (fun a a1 a2 a3 => f4 _ (by omega) (by omega))
    refine sX3_clear (!t) I4 (kV ?_)
    have f5 : ∀ c j, ¬ (c = 26 ∧ j ≤ 1) → (zwi (zwi I4 26 0 0) 26 1 0).1 c j = I4.1 c j := fun c j z => by rw [ywi_o (by omega), ywi_o (by omega)]
    have v0 : (zwi (zwi I4 26 0 0) 26 1 0).1 26 0 = 0 := by rw [ywi_o (by decide), ywi_s]
    have v1 : (zwi (zwi I4 26 0 0) 26 1 0).1 26 1 = 0 := ywi_s
    have l5 : (zwi (zwi I4 26 0 0) 26 1 0).2 = I4.2 := rfl
    generalize zwi (zwi I4 26 0 0) 26 1 0 = K at f5 v0 v1 l5 ⊢
    have CH5 : yCH (!t) Z.H K := CH4.fr (fun a a1 a2 a3 => funext (fun j => f5 _ j (by omega)))
    refine c_restart (d := D) hO CH5 (fun I6 f6 l6 r0 r2 rt => kV ?_)
    have f7 : ∀ c j, ¬ (c = 0 ∧ (j = 9 ∨ j = 11)) → (zwi (zwi I6 0 9 0) 0 11 0).1 c j = I6.1 c j := fun c j z => by rw [ywi_o (by omega), ywi_o (by omega)]
    have u9 : (zwi (zwi I6 0 9 0) 0 11 0).1 0 9 = 0 := by rw [ywi_o (by decide), ywi_s]
    have u11 : (zwi (zwi I6 0 9 0) 0 11 0).1 0 11 = 0 := ywi_s
    have l7 : (zwi (zwi I6 0 9 0) 0 11 0).2 = I6.2 := rfl
    generalize zwi (zwi I6 0 9 0) 0 11 0 = L at f7 u9 u11 l7 ⊢
    have CH7 : yCH (!t) Z.H L := CH5.fr (fun a a1 a2 a3 => funext (fun j => by rw [f7 _ j (by omega), f6 _ j (by omega) (by omega) (by omega) (by omega)]))
    rw [CH7.mem]
    -- from the first memory on
    have A : ∀ c j, c ≠ 0 → c ≠ 1 → c ≠ 22 → c ≠ 23 → ¬ (c = 26 ∧ j ≤ 1) → c ≠ 134 → ¬ (zH (!t) ≤ c ∧ c ≤ zH (!t) + 7) → ¬ (c = 128 ∧ (j = 0 ∨ j = 2)) → L.1 c j = IL.1 c j := fun c j a0 a1 a2 a3 a4 a5 a6 a7 => by
      rw [f7 c j (by omega), f6 c j a5 (by omega) (by omega) a7, f5 c j a4, f4 c a2 a3]
      exact m1 c j (by omega) a6
    have A1 : ∀ j, L.1 1 j = J.1 1 j := fun j => by rw [f7 1 j (by omega), f6 1 j (by decide) (by omega) (by omega) (by omega), f5 1 j (by omega), f4 1 (by decide) (by decide)]
    have A2 : L.2 = J.2 := by rw [l7, l6, l5, l4]
    refine hQ (!t) L ?_ (fun c hc => ?_) (fun c hc => ?_)
    · refine yC.mk CH7 ?_ ?_ (fun j hj => absurd hj (Nat.not_lt_zero j)) ?_ ?_ ?_ ?_ ?_ ?_ (fun j hj => absurd hj (Nat.not_lt_zero j)) ?_ ?_ ?_ (fun j hj => absurd hj (Nat.not_lt_zero j)) (fun j hj => absurd hj (Nat.not_lt_zero j)) (fun j hj => absurd hj (Nat.not_lt_zero j)) (fun j hj => absurd hj (Nat.not_lt_zero j)) (fun j hj => absurd hj (Nat.not_lt_zero j)) ?_ ?_ (fun b hb z => absurd (show false = true from z) (by decide)) ?_
      · exact S4.fr (funext (fun j => by rw [f7 22 j (by omega), f6 22 j (by decide) (by omega) (by omega) (by omega), f5 22 j (by omega)])) (funext (fun j => by rw [f7 (22 + 1) j (by omega), f6 (22 + 1) j (by decide) (by omega) (by omega) (by omega), f5 (22 + 1) j (by omega)]))
      · rw [A1]; exact w0
      · rw [A1]; exact w1
      · rw [A1]; exact w2
      · rw [f7 26 0 (by omega), f6 26 0 (by decide) (by omega) (by omega) (by omega)]; exact v0
      · rw [f7 26 1 (by omega), f6 26 1 (by decide) (by omega) (by omega) (by omega)]; exact v1
      · obtain ⟨o, ho, eo, _⟩ := hC.hist
        exact ⟨o, ho, by rw [A 26 2 (by decide) (by decide) (by decide) (by decide) (by omega) (by decide) (by omega) (by omega)]; exact eo, fun a ha => absurd ha (Nat.not_lt_zero a)⟩
      · exact u11
      · rw [f7 128 0 (by omega)]; exact r0
      · rw [A 128 1 (by decide) (by decide) (by decide) (by decide) (by omega) (by decide) (by omega) (by omega)]; exact hC.tim
      · rw [f7 128 2 (by omega)]; exact r2
      · intro hp v n hv hn
        rw [f7 134 _ (by omega)]; exact rt hp v n hv hn
      · intro b hb
        rw [u9]; exact b_0 b
      · intro w hw
        rw [A2, m2 5 w (by omega) (by decide) (by decide)]; exact hC.cod w hw
    · funext j
      exact A c j (by omega) (by omega) (by omega) (by omega) (by omega) (by omega) (by omega) (by omega)
    · rw [A2]
      funext j
      exact m2 c j (by omega) (by omega) (by omega)
  · intro I2 f2 q0 y1 y2
    have q : ¬ (yRs X).1 = 0 := q0
    have y1' : I2.1 1 1 = nI (yRs X).1 := y1
    have y2' : I2.1 1 2 = nI (yRs X).2.tk.s := y2
    rw [if_neg q, if_neg q] at hQ
    obtain ⟨m1, m2⟩ := main I2 f2
    have w0 : (zwi I2 1 0 0).1 1 0 = 0 := ywi_s
    have w1 : (zwi I2 1 0 0).1 1 1 = nI (yRs X).1 := by rw [ywi_o (by decide)]; exact y1'
    have w2 : (zwi I2 1 0 0).1 1 2 = nI (yRs X).2.tk.s := by rw [ywi_o (by decide)]; exact y2'
    refine kI (z0 ?_)
    generalize zwi I2 1 0 0 = J at m1 m2 w0 w1 w2 ⊢
    generalize (yRs X).1 = c0 at w1 hQ
    generalize (yRs X).2.tk.s = s0 at w2 hQ
    have A : ∀ c, c ≠ 1 → ¬ (zH (!t) ≤ c ∧ c ≤ zH (!t) + 7) → J.1 c = IL.1 c := fun c a1 a2 => funext (fun j => m1 c j (by omega) a2)
    have B : ∀ c, 22 ≤ c → J.1 c = IL.1 c := fun c h => A c (by omega) (by omega)
    refine hQ t J ?_ (fun c hc => B c (by omega)) (fun c hc => funext (fun j => m2 c j (by omega) (by omega) (by omega)))
    have b0 : J.1 0 = IL.1 0 := A 0 (by decide) (by omega)
    refine yC.mk (hC.H.fr (fun a a1 a2 a3 => A _ (by omega) (by omega))) (hC.S.fr (B 22 (by decide)) (B (22 + 1) (by decide))) w0 (fun j hj => absurd hj (Nat.not_lt_zero j)) w1 w2 (by rw [B 26 (by decide)]; exact hC.don) (by rw [B 26 (by decide)]; exact hC.und) ?_ (by rw [b0]; exact hC.lai) (by rw [B 136 (by decide)]; exact hC.lie) (by rw [B 128 (by decide)]; exact hC.cnt) (by rw [B 128 (by decide)]; exact hC.tim) (by rw [B 128 (by decide)]; exact hC.ope) (by rw [B 129 (by decide)]; exact hC.sof) (by rw [B 130 (by decide)]; exact hC.sno) (by rw [B 131 (by decide)]; exact hC.sis) (by rw [B 132 (by decide)]; exact hC.sto) (by rw [B 133 (by decide)]; exact hC.sun) (by rw [B 134 (by decide)]; exact hC.trk) (by rw [b0]; exact hC.bxm) (fun b hb z => (hC.bx b hb z).fr (B _ (by omega)) (B _ (by omega))) (fun w hw => by rw [m2 5 w (by omega) (by decide) (by decide)]; exact hC.cod w hw)
    obtain ⟨o, ho, eo, hh⟩ := hC.hist
    exact ⟨o, ho, by rw [B 26 (by decide)]; exact eo, fun a ha => (hh a ha).fr (B _ (by omega)) (B _ (by omega))⟩
end CHOUSE
