/-! the model's house() -/
section HSEG
variable {xs : List Int32} {d : Nat} {Q : zQ}
theorem hs_0 (t : Bool) (IL : zIL) (hh : (zcall xs d 194 (zFx t, IL) [.ref 145] (zkV (zFx t) fun IL1 => (zif2 (decide ((0 : Int32) < (IL1.1 145 2))) (Q (zFx t, IL1) (some (.int (-1)))) (gX8_house xs d Q 13 [.ref 145, .retAddr 0] [] (zFx t, IL1)))))) : zcall xs (d + 1) 195 (zFx t, IL) [.ref 145] Q := (show gX8_house xs d Q 0 [.ref 145, .retAddr 0] [] (zFx t, IL) from zseg (zcall_m xs d) 9 [13] hh)
theorem hs_13 (t : Bool) (IL : zIL) (hh : gX8_house xs d Q 21 [.ref 145, .retAddr 0] [] (zFx t, zwi IL 145 41 (IL.1 145 34))) : gX8_house xs d Q 13 [.ref 145, .retAddr 0] [] (zFx t, IL) := zseg (zcall_m xs d) 6 [21] hh
theorem hs_21 (t : Bool) (IL : zIL) (hh : gX8_house xs d Q 29 [.ref 145, .retAddr 0] [] (zFx t, zwi IL 145 42 (IL.1 145 35))) : gX8_house xs d Q 21 [.ref 145, .retAddr 0] [] (zFx t, IL) := zseg (zcall_m xs d) 6 [29] hh
theorem hs_29 (t : Bool) (IL : zIL) (hh : gX8_house xs d Q 37 [.ref 145, .retAddr 0] [] (zFx t, zwi IL 145 43 (IL.1 145 36))) : gX8_house xs d Q 29 [.ref 145, .retAddr 0] [] (zFx t, IL) := zseg (zcall_m xs d) 6 [37] hh
theorem hs_37 (t : Bool) (IL : zIL) (hh : gX8_house xs d Q 45 [.ref 145, .retAddr 0] [] (zFx t, zwi IL 145 44 (IL.1 145 37))) : gX8_house xs d Q 37 [.ref 145, .retAddr 0] [] (zFx t, IL) := zseg (zcall_m xs d) 6 [45] hh
theorem hs_45 (t : Bool) (IL : zIL) (hh : gX8_house xs d Q 53 [.ref 145, .retAddr 0] [] (zFx t, zwi IL 145 45 (IL.1 145 38))) : gX8_house xs d Q 45 [.ref 145, .retAddr 0] [] (zFx t, IL) := zseg (zcall_m xs d) 6 [53] hh
theorem hs_53 (t : Bool) (IL : zIL) (hh : gX8_house xs d Q 61 [.ref 145, .retAddr 0] [] (zFx t, zwi IL 145 46 (IL.1 145 39))) : gX8_house xs d Q 53 [.ref 145, .retAddr 0] [] (zFx t, IL) := zseg (zcall_m xs d) 6 [61] hh
theorem hs_61 (t : Bool) (IL : zIL) (hh : gX8_house xs d Q 69 [.ref 145, .retAddr 0] [] (zFx t, zwi IL 145 47 (IL.1 145 40))) : gX8_house xs d Q 61 [.ref 145, .retAddr 0] [] (zFx t, IL) := zseg (zcall_m xs d) 6 [69] hh
theorem hs_69 (t : Bool) (IL : zIL) (hh : gX8_house xs d Q 77 [.ref 145, .retAddr 0] [] (zFx t, zwi IL 145 21 (IL.1 145 20))) : gX8_house xs d Q 69 [.ref 145, .retAddr 0] [] (zFx t, IL) := zseg (zcall_m xs d) 6 [77] hh
theorem hs_77 (t : Bool) (IL : zIL) (hh : zbo (IL.1 145 24) (gX8_house xs d Q 85 [.ref 145, .retAddr 0] [] (zFx t, zwi IL 145 25 (IL.1 145 24)))) : gX8_house xs d Q 77 [.ref 145, .retAddr 0] [] (zFx t, IL) := zseg (zcall_m xs d) 6 [85] hh
theorem hs_85 (t : Bool) (IL : zIL) (hh : zif2 (decide (((IL.1 145 24) : Int32) = 0)) (gX8_house xs d Q 106 [.ref 145, .int (0)] [] (zFx t, zwi IL 145 18 0)) (gX8_house xs d Q 106 [.ref 145, .int (0)] [] (zFx t, zwi IL 145 18 (IL.1 145 17)))) : gX8_house xs d Q 85 [.ref 145, .retAddr 0] [] (zFx t, IL) := zseg (zcall_m xs d) 14 [106] hh
end HSEG
theorem zbj {x : Int32} {b : Bool} {P : Prop} (hx : x = if b then 1 else 0) (h : P) : zbo x P := by rw [hx]; exact zbi h
/-- copies within cell 145 -/
def ycp (L : List (Nat × Nat)) (A J : zIL) : Prop := (∀ c j, ¬ (c = 145 ∧ (L.map Prod.fst).contains j = true) → J.1 c j = A.1 c j) ∧ J.2 = A.2 ∧ ∀ p, p ∈ L → J.1 145 p.1 = A.1 145 p.2
theorem ycp_n {A : zIL} : ycp [] A A := ⟨fun _ _ _ => rfl, rfl, fun p hp => by cases hp⟩
theorem ycp_s {L : List (Nat × Nat)} {A J : zIL} {a b : Nat} (h : ycp L A J) (ha : (L.map Prod.fst).contains a = false) (hb : (L.map Prod.fst).contains b = false) : ycp ((a, b) :: L) A (zwi J 145 a (J.1 145 b)) := by
  have eb : J.1 145 b = A.1 145 b := h.1 145 b (fun z => by rw [hb] at z; exact absurd z.2 (by decide))
  refine ⟨fun c j z => ?_, h.2.1, fun p hp => ?_⟩
  · have m : ((a, b) :: L).map Prod.fst = a :: L.map Prod.fst := rfl
    rw [m, List.contains_cons] at z
    rw [ywi_o (fun q => z ⟨q.1, by rw [q.2]; simp⟩)]
    exact h.1 c j (fun q => z ⟨q.1, by rw [q.2, Bool.or_true]⟩)
  · rcases List.mem_cons.mp hp with e | e
    · rw [e]
      show (zwi J 145 a (J.1 145 b)).1 145 a = A.1 145 b
      rw [ywi_s, eb]
    · rw [ywi_o (fun q => ?_)]
      · exact h.2.2 p e
      · have : (L.map Prod.fst).contains a = true := by
          rw [List.contains_iff_mem, ← q.2]
          exact List.mem_map.mpr ⟨p, e, rfl⟩
        rw [ha] at this
        exact absurd this (by decide)
section MHOUSE
variable {xs : List Int32} {d : Nat} {Q : zQ} {t : Bool} {IL : zIL} {B : Nat → Nat} {n : Nat}
theorem l_h13 {b : Bool} (hb : IL.1 145 24 = if b then 1 else 0) (hQ : ∀ J, (∀ c j, ¬ (c = 145 ∧ (j = 18 ∨ j = 21 ∨ j = 25 ∨ (41 ≤ j ∧ j ≤ 47))) → J.1 c j = IL.1 c j) → J.2 = IL.2 → J.1 145 41 = IL.1 145 34 → J.1 145 42 = IL.1 145 35 → J.1 145 43 = IL.1 145 36 → J.1 145 44 = IL.1 145 37 → J.1 145 45 = IL.1 145 38 → J.1 145 46 = IL.1 145 39 → J.1 145 47 = IL.1 145 40 → J.1 145 21 = IL.1 145 20 → J.1 145 25 = IL.1 145 24 → J.1 145 18 = (if IL.1 145 24 = 0 then 0 else IL.1 145 17) → gX8_house xs d Q 106 [.ref 145, .int 0] [] (zFx t, J)) : gX8_house xs d Q 13 [.ref 145, .retAddr 0] [] (zFx t, IL) := by
  have c1 := ycp_s (a := 41) (b := 34) (ycp_n (A := IL)) rfl rfl
  refine hs_13 t IL ?_
  generalize zwi IL 145 41 (IL.1 145 34) = I1 at c1 ⊢
  have c2 := ycp_s (a := 42) (b := 35) c1 rfl rfl
  refine hs_21 t I1 ?_
  generalize zwi I1 145 42 (I1.1 145 35) = I2 at c2 ⊢
  have c3 := ycp_s (a := 43) (b := 36) c2 rfl rfl
  refine hs_29 t I2 ?_
  generalize zwi I2 145 43 (I2.1 145 36) = I3 at c3 ⊢
  have c4 := ycp_s (a := 44) (b := 37) c3 rfl rfl
  refine hs_37 t I3 ?_
  generalize zwi I3 145 44 (I3.1 145 37) = I4 at c4 ⊢
  have c5 := ycp_s (a := 45) (b := 38) c4 rfl rfl
  refine hs_45 t I4 ?_
  generalize zwi I4 145 45 (I4.1 145 38) = I5 at c5 ⊢
  have c6 := ycp_s (a := 46) (b := 39) c5 rfl rfl
  refine hs_53 t I5 ?_
  generalize zwi I5 145 46 (I5.1 145 39) = I6 at c6 ⊢
  have c7 := ycp_s (a := 47) (b := 40) c6 rfl rfl
  refine hs_61 t I6 ?_
  generalize zwi I6 145 47 (I6.1 145 40) = I7 at c7 ⊢
  have c8 := ycp_s (a := 21) (b := 20) c7 rfl rfl
  refine hs_69 t I7 ?_
  generalize zwi I7 145 21 (I7.1 145 20) = I8 at c8 ⊢
  have c9 := ycp_s (a := 25) (b := 24) c8 rfl rfl
  refine hs_77 t I8 ?_
  have e8 : I8.1 145 24 = IL.1 145 24 := c8.1 145 24 (fun z => absurd z.2 (by decide))
  refine zbj (b := b) (e8.trans hb) ?_
  generalize zwi I8 145 25 (I8.1 145 24) = I9 at c9 ⊢
  have e9 : I9.1 145 24 = IL.1 145 24 := c9.1 145 24 (fun z => absurd z.2 (by decide))
  have e17 : I9.1 145 17 = IL.1 145 17 := c9.1 145 17 (fun z => absurd z.2 (by decide))
  have fin : ∀ v, v = (if IL.1 145 24 = 0 then 0 else IL.1 145 17) → gX8_house xs d Q 106 [.ref 145, .int 0] [] (zFx t, zwi I9 145 18 v) := by
    intro v hv
    have g : ∀ a b, (a, b) ∈ [(25, 24), (21, 20), (47, 40), (46, 39), (45, 38), (44, 37), (43, 36), (42, 35), (41, 34)] → ¬ a = 18 → (zwi I9 145 18 v).1 145 a = IL.1 145 b := fun a b m z => by
      rw [ywi_o (fun q => z q.2)]
      exact c9.2.2 (a, b) m
    refine hQ _ (fun c j z => ?_) c9.2.1 (g 41 34 (by decide) (by decide)) (g 42 35 (by decide) (by decide)) (g 43 36 (by decide) (by decide)) (g 44 37 (by decide) (by decide)) (g 45 38 (by decide) (by decide)) (g 46 39 (by decide) (by decide)) (g 47 40 (by decide) (by decide)) (g 21 20 (by decide) (by decide)) (g 25 24 (by decide) (by decide)) (by rw [ywi_s]; exact hv)
    rw [ywi_o (by omega)]
    refine c9.1 c j (fun q => z ⟨q.1, ?_⟩)
    have q2 := q.2
    rw [List.contains_iff_mem] at q2
    have q3 : j ∈ [25, 21, 47, 46, 45, 44, 43, 42, 41] := q2
    simp only [List.mem_cons, List.not_mem_nil, or_false] at q3
    omega
  refine hs_85 t I9 ?_
  rw [e9, e17]
  refine zdec (fun z => fin 0 ?_) (fun z => fin _ ?_)
  · rw [if_pos z]
  · rw [if_neg z]
theorem l_c106 {J0 : zIL} {m : Nat} (hm : m ≤ 320) (h18 : J0.1 145 18 = nI m) (hQ : ∀ J, zfr [150, 151] J0 J → (∀ j, j < m → J.1 150 j = J0.1 148 j ∧ J.1 151 j = J0.1 149 j) → gX8_house xs d Q 146 [.ref 145, .int 0] [] (zFx t, J)) : ∀ (k i : Nat) (J : zIL), i + k = m → zfr [150, 151] J0 J → (∀ j, j < i → J.1 150 j = J0.1 148 j ∧ J.1 151 j = J0.1 149 j) → gX8_house xs d Q 106 [.ref 145, .int (nI i)] [] (zFx t, J)
  | 0, i, J, hi, fr, h => sX8_house_106 t _ J (zd_f (n := m) (by rw [fr.1 145 (by decide)]; exact h18) (by omega) (by omega) (hQ J fr (fun j hj => h j (by omega))))
  | k + 1, i, J, hi, fr, h => by
    refine sX8_house_106 t _ J (zd_t (n := m) (by rw [fr.1 145 (by decide)]; exact h18) (by omega) (by omega) (zix_n (by omega) (by decide) (zix_n (by omega) (by decide) (zix_n (by omega) (by decide) (zix_n (by omega) (by decide) ?_)))))
    rw [nI_1, ycl (by omega), zwi_ne (show (149 : Nat) ≠ 150 by decide), fr.1 148 (by decide), fr.1 149 (by decide)]
    refine l_c106 hm h18 hQ k (i + 1) _ (by omega) (zfr_tr fr (zfr_tr (zfr_wi (by decide)) (zfr_wi (by decide)))) (fun j hj => ?_)
    rw [zwi_at, zwi_ne (show (150 : Nat) ≠ 151 by decide), zwi_at, zwi_ne (show (151 : Nat) ≠ 150 by decide)]
    by_cases e : j = i
    · rw [if_pos e, if_pos e, e]; exact ⟨rfl, rfl⟩
    · rw [if_neg e, if_neg e]; exact h j (by omega)
theorem l_c146 {J0 : zIL} {m : Nat} (hm : m ≤ 7) (h18 : J0.1 145 41 = nI m) (hQ : ∀ J, zfr [158, 159] J0 J → (∀ j, j < m → J.1 158 j = J0.1 155 j ∧ J.1 159 j = J0.1 156 j) → gX8_house xs d Q 186 [.ref 145, .int 0] [] (zFx t, J)) : ∀ (k i : Nat) (J : zIL), i + k = m → zfr [158, 159] J0 J → (∀ j, j < i → J.1 158 j = J0.1 155 j ∧ J.1 159 j = J0.1 156 j) → gX8_house xs d Q 146 [.ref 145, .int (nI i)] [] (zFx t, J)
  | 0, i, J, hi, fr, h => sX8_house_146 t _ J (zd_f (n := m) (by rw [fr.1 145 (by decide)]; exact h18) (by omega) (by omega) (hQ J fr (fun j hj => h j (by omega))))
  | k + 1, i, J, hi, fr, h => by
    refine sX8_house_146 t _ J (zd_t (n := m) (by rw [fr.1 145 (by decide)]; exact h18) (by omega) (by omega) (zix_n (by omega) (by decide) (zix_n (by omega) (by decide) (zix_n (by omega) (by decide) (zix_n (by omega) (by decide) ?_)))))
    rw [nI_1, ycl (by omega), zwi_ne (show (156 : Nat) ≠ 158 by decide), fr.1 155 (by decide), fr.1 156 (by decide)]
    refine l_c146 hm h18 hQ k (i + 1) _ (by omega) (zfr_tr fr (zfr_tr (zfr_wi (by decide)) (zfr_wi (by decide)))) (fun j hj => ?_)
    rw [zwi_at, zwi_ne (show (158 : Nat) ≠ 159 by decide), zwi_at, zwi_ne (show (159 : Nat) ≠ 158 by decide)]
    by_cases e : j = i
    · rw [if_pos e, if_pos e, e]; exact ⟨rfl, rfl⟩
    · rw [if_neg e, if_neg e]; exact h j (by omega)
theorem l_layTold {J0 : zIL} {S : Nat → Int32} (hS : ∀ j, j < 11 → S j = if j = 7 then J0.1 145 43 else if j = 10 then J0.1 145 47 else 0) (hQ : ∀ J, zfr [162] J0 J → yMS 162 S J → Q (zFx t, J) none) : ∀ (k i : Nat) (J : zIL), i + k = 11 → zfr [162] J0 J → (∀ j, j < i → J.1 162 j = 0) → gX8_layTold xs d Q 2 [.ref 145, .int (nI i)] [] (zFx t, J)
  | 0, i, J, hi, fr, h => by
    refine sX8_layTold_2 t _ J (zd_f (n := 11) rfl (by omega) (by omega) (hQ _ (zfr_tr fr (zfr_tr (zfr_wi (by decide)) (zfr_wi (by decide)))) (fun j hj => ?_)))
    rw [zwi_at, zwi_ne (show (145 : Nat) ≠ 162 by decide), zwi_at, fr.1 145 (by decide), hS j hj]
    by_cases e : j = 10
    · rw [if_pos e, if_neg (show ¬ j = 7 by omega), if_pos e]
    · rw [if_neg e, if_neg e]
      by_cases e7 : j = 7
      · rw [if_pos e7, if_pos e7]
      · rw [if_neg e7, if_neg e7]; exact h j (by omega)
  | k + 1, i, J, hi, fr, h => by
    refine sX8_layTold_2 t _ J (zd_t (n := 11) rfl (by omega) (by omega) (zix_n (by omega) (by decide) ?_))
    rw [nI_1, ycl (by omega)]
    refine l_layTold hS hQ k (i + 1) _ (by omega) (zfr_tr fr (zfr_wi (by decide))) (fun j hj => ?_)
    rw [zwi_at]
    by_cases e : j = i
    · rw [if_pos e]
    · rw [if_neg e, h j (by omega)]
theorem l_c242 {J0 : zIL} (hQ : ∀ J, zfr [177] J0 J → (∀ j, j < 3 → J.1 177 j = 0) → Q (zFx t, J) (some (.int (J0.1 145 41)))) : ∀ (k i : Nat) (J : zIL), i + k = 3 → zfr [177] J0 J → (∀ j, j < i → J.1 177 j = 0) → gX8_house xs d Q 242 [.ref 145, .int (nI i)] [] (zFx t, J)
  | 0, i, J, hi, fr, h => by
    refine sX8_house_242 t _ J (zd_f (n := 3) rfl (by omega) (by omega) ?_)
    rw [fr.1 145 (by decide)]
    exact hQ J fr (fun j hj => h j (by omega))
  | k + 1, i, J, hi, fr, h => by
    refine sX8_house_242 t _ J (zd_t (n := 3) rfl (by omega) (by omega) (zix_n (by omega) (by decide) ?_))
    rw [nI_1, ycl (by omega)]
    refine l_c242 hQ k (i + 1) _ (by omega) (zfr_tr fr (zfr_wi (by decide))) (fun j hj => ?_)
    rw [zwi_at]
    by_cases e : j = i
    · rw [if_pos e]; rfl
    · rw [if_neg e, h j (by omega)]
theorem l_c186 {J0 : zIL} {m : Nat} (hm : m ≤ 6) (h18 : J0.1 145 42 = nI m) {S : Nat → Int32} (hS : ∀ j, j < 11 → S j = if j = 7 then J0.1 145 43 else if j = 10 then J0.1 145 47 else 0) (hQ : ∀ J, (∀ c j, c ≠ 160 → c ≠ 161 → c ≠ 162 → c ≠ 177 → ¬ (c = 145 ∧ (j = 57 ∨ j = 58 ∨ j = 71 ∨ j = 62)) → J.1 c j = J0.1 c j) → J.2 = J0.2 → (∀ j, j < m → J.1 160 j = J0.1 157 j) → yMS 161 S J → J.1 145 57 = 0 → J.1 145 58 = 0 → J.1 145 71 = 0 → J.1 145 62 = 0 → (∀ j, j < 3 → J.1 177 j = 0) → Q (zFx t, J) (some (.int (J0.1 145 41)))) : ∀ (k i : Nat) (J : zIL), i + k = m → zfr [160] J0 J → (∀ j, j < i → J.1 160 j = J0.1 157 j) → gX8_house xs (d + 1) Q 186 [.ref 145, .int (nI i)] [] (zFx t, J)
  | 0, i, J, hi, fr, h => by
    refine sX8_house_186 t _ J (zd_f (n := m) (by rw [fr.1 145 (by decide)]; exact h18) (by omega) (by omega) ?_)
    refine sX8_layTold t J (l_layTold (J0 := J) (S := S) (fun j hj => by rw [fr.1 145 (by decide)]; exact hS j hj) (fun J1 f1 S1 => kV ?_) 11 0 J (by omega) zfr_rf (fun j hj => absurd hj (Nat.not_lt_zero j)))
    refine c_keepAir S1 (fun J2 f2 S2 => kV ?_)
    have fr2 : ∀ c, c ≠ 160 → c ≠ 161 → c ≠ 162 → J2.1 c = J0.1 c := fun c a b e => by
      rw [f2.1 c (by simp [b]), f1.1 c (by simp [e]), fr.1 c (by simp [a])]
    have e160 : J2.1 160 = J.1 160 := by rw [f2.1 160 (by decide), f1.1 160 (by decide)]
    have l2 : J2.2 = J0.2 := by rw [f2.2, f1.2, fr.2]
    have w : ∀ c j, ¬ (c = 145 ∧ (j = 57 ∨ j = 58 ∨ j = 71 ∨ j = 62)) → (zwi (zwi (zwi (zwi J2 145 57 0) 145 58 0) 145 71 0) 145 62 0).1 c j = J2.1 c j := fun c j z => by
      rw [ywi_o (by omega), ywi_o (by omega), ywi_o (by omega), ywi_o (by omega)]
    have w57 : (zwi (zwi (zwi (zwi J2 145 57 0) 145 58 0) 145 71 0) 145 62 0).1 145 57 = 0 := by rw [ywi_o (by decide), ywi_o (by decide), ywi_o (by decide), ywi_s]
    have w58 : (zwi (zwi (zwi (zwi J2 145 57 0) 145 58 0) 145 71 0) 145 62 0).1 145 58 = 0 := by rw [ywi_o (by decide), ywi_o (by decide), ywi_s]
    have w71 : (zwi (zwi (zwi (zwi J2 145 57 0) 145 58 0) 145 71 0) 145 62 0).1 145 71 = 0 := by rw [ywi_o (by decide), ywi_s]
    have w62 : (zwi (zwi (zwi (zwi J2 145 57 0) 145 58 0) 145 71 0) 145 62 0).1 145 62 = 0 := ywi_s
    have wl : (zwi (zwi (zwi (zwi J2 145 57 0) 145 58 0) 145 71 0) 145 62 0).2 = J2.2 := rfl
    generalize zwi (zwi (zwi (zwi J2 145 57 0) 145 58 0) 145 71 0) 145 62 0 = K at w w57 w58 w71 w62 wl ⊢
    have e41 : K.1 145 41 = J0.1 145 41 := by rw [w 145 41 (by omega), fr2 145 (by decide) (by decide) (by decide)]
    refine l_c242 (J0 := K) (fun J3 f3 z3 => ?_) 3 0 K (by omega) zfr_rf (fun j hj => absurd hj (Nat.not_lt_zero j))
    rw [e41]
    refine hQ J3 (fun c j a b e g z => ?_) ?_ (fun j hj => ?_) (fun j hj => ?_) ?_ ?_ ?_ ?_ z3
    · rw [f3.1 c (by simp [g]), w c j z, fr2 c a b e]
    · rw [f3.2, wl, l2]
    · rw [f3.1 160 (by decide), w 160 j (by omega), e160]; exact h j (by omega)
    · rw [f3.1 161 (by decide), w 161 j (by omega)]; exact S2 j hj
    · rw [f3.1 145 (by decide)]; exact w57
    · rw [f3.1 145 (by decide)]; exact w58
    · rw [f3.1 145 (by decide)]; exact w71
    · rw [f3.1 145 (by decide)]; exact w62
  | k + 1, i, J, hi, fr, h => by
    refine sX8_house_186 t _ J (zd_t (n := m) (by rw [fr.1 145 (by decide)]; exact h18) (by omega) (by omega) (zix_n (by omega) (by decide) (zix_n (by omega) (by decide) ?_)))
    rw [nI_1, ycl (by omega), fr.1 157 (by decide)]
    refine l_c186 hm h18 hS hQ k (i + 1) _ (by omega) (zfr_tr fr (zfr_wi (by decide))) (fun j hj => ?_)
    rw [zwi_at]
    by_cases e : j = i
    · rw [if_pos e, e]
    · rw [if_neg e]; exact h j (by omega)
/-- the frame of readAll() -/
def yfv (A B : zIL) : Prop := (∀ c j, ¬ ywsl c j → ¬ (c = 145 ∧ (j = 1 ∨ j = 5)) → B.1 c j = A.1 c j) ∧ (∀ c j, ¬ (c = 145 ∧ j = 9) → c ≠ 147 → B.2 c j = A.2 c j)
theorem m_readAll (hn : n ≤ 1600) (hB : ∀ j, j < n → B j < 256) (h1 : IL.1 145 1 = nI n) (ht : ∀ j, j < n → IL.1 146 j = nI (B j)) (hQ : ∀ IL', yfv IL IL' → yZN B n (yTl B n 1601 (yZ0 B n)) IL' → IL'.1 145 1 = 0 → Q (zFx t, IL') none) : zcall xs (d + 7) 194 (zFx t, IL) [.ref 145] Q := by
  refine sX8_readAll t IL ?_
  have g : ∀ J : zIL, (zwi (zwi (zwi (zwi (zwi (zwi (zwi (zwi (zwi (zwi (zwi (zwi (zwi (zwi (zwi (zwi (zwi (zwi IL 145 5 (IL.1 145 1)) 145 1 0) 145 4 0) 145 2 0) 145 3 (-1)) 145 34 0) 145 35 0) 145 36 0) 145 37 10) 145 38 1) 145 39 0) 145 40 0) 145 48 0) 145 49 0) 145 50 0) 145 51 0) 145 24 0) 145 20 0) = J → (∀ c j, ¬ ywsl c j → ¬ (c = 145 ∧ (j = 1 ∨ j = 5)) → J.1 c j = IL.1 c j) ∧ J.2 = IL.2 ∧ J.1 145 5 = IL.1 145 1 ∧ J.1 145 1 = 0 ∧ J.1 145 4 = 0 ∧ J.1 145 2 = 0 ∧ J.1 145 3 = -1 ∧ yZF [] [] (fun _ => false) yH0 J := by
    intro J e
    subst e
    refine ⟨fun c j z z2 => ?_, rfl, rfl, rfl, rfl, rfl, rfl, yZF.mk rfl rfl rfl rfl rfl rfl rfl rfl rfl rfl rfl rfl (fun j hj => absurd hj (Nat.not_lt_zero j)) (fun j hj => absurd hj (Nat.not_lt_zero j)) (fun j hj => absurd hj (Nat.not_lt_zero j)) (fun j hj => absurd hj (Nat.not_lt_zero j)) (fun j hj => absurd hj (Nat.not_lt_zero j)) rfl (fun z => by cases z)⟩
    unfold ywsl at z
    rw [ywi_o (by omega), ywi_o (by omega), ywi_o (by omega), ywi_o (by omega), ywi_o (by omega), ywi_o (by omega), ywi_o (by omega), ywi_o (by omega), ywi_o (by omega), ywi_o (by omega), ywi_o (by omega), ywi_o (by omega), ywi_o (by omega), ywi_o (by omega), ywi_o (by omega), ywi_o (by omega), ywi_o (by omega), ywi_o (by omega)]
  generalize eJ : (zwi (zwi (zwi (zwi (zwi (zwi (zwi (zwi (zwi (zwi (zwi (zwi (zwi (zwi (zwi (zwi (zwi (zwi IL 145 5 (IL.1 145 1)) 145 1 0) 145 4 0) 145 2 0) 145 3 (-1)) 145 34 0) 145 35 0) 145 36 0) 145 37 10) 145 38 1) 145 39 0) 145 40 0) 145 48 0) 145 49 0) 145 50 0) 145 51 0) 145 24 0) 145 20 0) = J
  obtain ⟨fw, w2, w5, w1, w4, wz, w3, wF⟩ := g J eJ
  clear g eJ
  have mt : ymt n B J := ⟨by rw [w5]; exact h1, fun j hj => by rw [fw 146 j (by unfold ywsl; omega) (by omega)]; exact ht j hj⟩
  refine c_token (d := d + 4) (p := 0) hn hB mt (Nat.zero_le n) w4 w3 (fun I1 f1 t1 => kV ?_)
  have f1y := yfy_q f1
  refine l_all (IL0 := J) (d := d) hn hB 1601 I1 (yZ0 B n) (by omega) ⟨ymt_fr mt f1, t1, by rw [f1.1 145 2 (by omega)]; exact wz, yZF_y wF f1y⟩ (yZ0_I hB) (yfw_y f1y) (fun I2 f2 N2 => hQ I2 ⟨fun c j z z2 => ?_, fun c j z z2 => ?_⟩ N2 ?_)
  · rw [f2.1 c j z]; exact fw c j z z2
  · rw [f2.2 c j z z2, w2]
  · rw [f2.1 145 1 (by unfold ywsl; omega)]; exact w1
end MHOUSE
/-- House behind house() -/
def yB (X : yX) : Nat → Nat := fun j => (X.tp j).toNatClampNeg
def yRs (X : yX) : Nat × yZ := yTl (yB X) X.len 1601 (yZ0 (yB X) X.len)
def yS0 (H : yH) : Nat → Int32 := fun j => if j = 7 then H.out else if j = 10 then H.draw else 0
def x_hok (X : yX) (H : yH) : yX := yX.mk H (yS0 H) 0 X.tp 0 (-1) 0 0 X.hi 0 X.lie 0 X.tim X.sof X.sno X.sis X.sto X.sun (fun _ => false) X.bx
def x_hno (X : yX) (c s : Nat) : yX := yX.mk X.H X.S 0 X.tp (nI c) (nI s) X.don X.und X.hi X.lai X.lie X.cnt X.tim X.sof X.sno X.sis X.sto X.sun X.bxf X.bx
def x_house (X : yX) : yX := if (yRs X).1 = 0 then x_hok X (yRs X).2.H else x_hno X (yRs X).1 (yRs X).2.tk.s
def r_house (X : yX) : Int32 := if (yRs X).1 = 0 then nI (yRs X).2.H.n else -1
theorem yB_ok {X : yX} (hI : yI X) : ∀ j, j < X.len → yB X j < 256 ∧ nI (yB X j) = X.tp j := fun j hj => by
  obtain ⟨k, hk, e⟩ := yin_ex (n := 255) (hI.tp j hj)
  unfold yB
  rw [e, ycl (by omega)]
  exact ⟨by omega, rfl⟩
theorem yTl_I {B : Nat → Nat} {n : Nat} (hn : n ≤ 1600) (hB : ∀ j, j < n → B j < 256) : ∀ (k : Nat) (Z : yZ), yZI n Z → ytkO n (yTl B n k Z).2.tk ∧ (yTl B n k Z).1 ≤ 4 ∧ ((yTl B n k Z).1 = 0 → yZI n (yTl B n k Z).2)
  | 0, Z, h => ⟨h.1, Nat.zero_le _, fun _ => h⟩
  | k + 1, Z, h => by
    unfold yTl
    by_cases e : Z.tk.k = 1
    · rw [if_pos e]; exact ⟨h.1, Nat.zero_le _, fun _ => h⟩
    · rw [if_neg e]
      have li := yLi_I hn hB h e
      by_cases q : (yLi B n Z).1 = 0
      · rw [if_pos q]
        exact yTl_I hn hB k _ (li.2.2 q).1
      · rw [if_neg q]
        exact ⟨li.1, li.2.1, fun z => absurd z q⟩
theorem yRs_I {X : yX} (hI : yI X) : ytkO X.len (yRs X).2.tk ∧ (yRs X).1 ≤ 4 ∧ ((yRs X).1 = 0 → yZI X.len (yRs X).2) := yTl_I hI.len (fun j hj => (yB_ok hI j hj).1) 1601 _ (yZ0_I (fun j hj => (yB_ok hI j hj).1))
section MHOUSE2
variable {xs : List Int32} {d : Nat} {Q : zQ} {t : Bool} {IL : zIL} {X : yX}
theorem m_house (hI : yI X) (hM : yM X IL) (hQ : ∀ IL', yM (x_house X) IL' → (∀ c, c < 145 → IL'.1 c = IL.1 c) → (∀ c, c < 145 → IL'.2 c = IL.2 c) → Q (zFx t, IL') (some (.int (r_house X)))) : zcall xs (d + 8) 195 (zFx t, IL) [.ref 145] Q := by
  have hB : ∀ j, j < X.len → yB X j < 256 := fun j hj => (yB_ok hI j hj).1
  have rI := yRs_I hI
  refine hs_0 t IL (m_readAll (d := d) (B := yB X) hI.len hB hM.len (fun j hj => by rw [(yB_ok hI j hj).2]; exact hM.tape j hj) (fun I1 f1 N1 w1 => kV ?_))
  have N1' : yZN (yB X) X.len (yRs X) I1 := N1
  clear N1
  unfold x_house r_house at hQ
  generalize yRs X = r at hQ N1' rI
  have k45 : ∀ c j, 145 ≤ c → ¬ ywsl c j → ¬ (c = 145 ∧ (j = 1 ∨ j = 5)) → I1.1 c j = IL.1 c j := fun c j _ => f1.1 c j
  have low : ∀ c, c < 145 → I1.1 c = IL.1 c ∧ I1.2 c = IL.2 c := fun c hc => ⟨funext (fun j => f1.1 c j (by unfold ywsl; omega) (by omega)), funext (fun j => f1.2 c j (by omega) (by omega))⟩
  by_cases q : r.1 = 0
  · rw [if_pos q, if_pos q] at hQ
    obtain ⟨_, _, z2, F⟩ := N1'.1 q
    obtain ⟨_, tk3⟩ : True ∧ I1.1 145 3 = -1 := ⟨trivial, (N1'.1 q).2.1.2.2.2.2.2⟩
    have zI := rI.2.2 q
    have hO := zI.2.2.2.2.2.1
    have n7 := hO.n7
    have k6 := hO.k6
    have s7 : r.2.H.ss.length ≤ 320 := Nat.le_trans hO.ss.1 (by decide)
    have h24 : I1.1 145 24 = if r.2.fl 2 then 1 else 0 := F.f2
    have b24 : I1.1 145 24 = 0 ↔ r.2.H.ss = [] := by
      rw [h24]
      cases e : r.2.fl 2
      · exact ⟨fun _ => (zI.2.2.2.2.2.2.1 e).1, fun _ => rfl⟩
      · exact ⟨fun z => absurd z (by decide), fun z => absurd z (zI.2.2.2.2.2.2.2 e)⟩
    refine zdec (fun z => absurd z (by rw [z2]; decide)) (fun _ => l_h13 h24 ?_)
    intro J2 g2 l2 e41 e42 e43 e44 e45 e46 e47 e21 e25 e18
    have e18' : J2.1 145 18 = nI r.2.H.ss.length := by
      rw [e18]
      by_cases z : I1.1 145 24 = 0
      · rw [if_pos z, b24.mp z]; rfl
      · rw [if_neg z]
        cases e : r.2.fl 2
        · exact absurd (b24.mpr (zI.2.2.2.2.2.2.1 e).1) z
        · exact (F.ss e).1
    have st : ∀ j, j < r.2.H.ss.length → J2.1 148 j = yst (r.2.H.ss.getD j 0) ∧ J2.1 149 j = yar (r.2.H.ss.getD j 0) := fun j hj => by
      cases e : r.2.fl 2
      · rw [(zI.2.2.2.2.2.2.1 e).1] at hj; exact absurd hj (Nat.not_lt_zero j)
      · rw [g2 148 j (by omega), g2 149 j (by omega)]; exact (F.ss e).2 j hj
    refine l_c106 (J0 := J2) s7 e18' (fun J3 f3 c3 => ?_) _ 0 J2 (Nat.zero_add _) zfr_rf (fun j hj => absurd hj (Nat.not_lt_zero j))
    have f3' : ∀ c, c ≠ 150 → c ≠ 151 → J3.1 c = J2.1 c := fun c a b => f3.1 c (by simp [a, b])
    refine l_c146 (J0 := J3) (m := r.2.H.n) n7 (by rw [f3' 145 (by decide) (by decide), e41]; exact F.nn) (fun J4 f4 c4 => ?_) _ 0 J3 (Nat.zero_add _) zfr_rf (fun j hj => absurd hj (Nat.not_lt_zero j))
    have f4' : ∀ c, c ≠ 158 → c ≠ 159 → J4.1 c = J3.1 c := fun c a b => f4.1 c (by simp [a, b])
    have g45 : ∀ j, J4.1 145 j = J2.1 145 j := fun j => by rw [f4' 145 (by decide) (by decide), f3' 145 (by decide) (by decide)]
    refine l_c186 (d := d + 6) (J0 := J4) (m := r.2.H.k) (S := yS0 r.2.H) k6 (by rw [g45, e42]; exact F.kk) (fun j hj => by rw [g45, g45, e43, e47, F.out, F.draw]; rfl) ?_ _ 0 J4 (Nat.zero_add _) zfr_rf (fun j hj => absurd hj (Nat.not_lt_zero j))
    intro J5 g5 l5 c5 S5 w57 w58 w71 w62 w177
    have e41' : J4.1 145 41 = nI r.2.H.n := by rw [g45, e41]; exact F.nn
    rw [e41']
    have h5 : ∀ c j, c ≠ 150 → c ≠ 151 → c ≠ 158 → c ≠ 159 → c ≠ 160 → c ≠ 161 → c ≠ 162 → c ≠ 177 → ¬ (c = 145 ∧ (j = 57 ∨ j = 58 ∨ j = 71 ∨ j = 62)) → J5.1 c j = J2.1 c j := fun c j a1 a2 a3 a4 a5 a6 a7 a8 z => by
      rw [g5 c j a5 a6 a7 a8 z, f4' c a3 a4, f3' c a1 a2]
    have q5 : ∀ j, ¬ (j = 57 ∨ j = 58 ∨ j = 71 ∨ j = 62) → J5.1 145 j = J2.1 145 j := fun j z => h5 145 j (by decide) (by decide) (by decide) (by decide) (by decide) (by decide) (by decide) (by decide) (fun w => z w.2)
    have q2 : ∀ j, ¬ (j = 18 ∨ j = 21 ∨ j = 25 ∨ (41 ≤ j ∧ j ≤ 47)) → J2.1 145 j = I1.1 145 j := fun j z => g2 145 j (fun w => z w.2)
    have v5 : J5.2 = I1.2 := by rw [l5, f4.2, f3.2, l2]
    refine hQ J5 ?_ (fun c hc => ?_) (fun c hc => ?_)
    · refine yM.mk ?_ S5 ?_ ?_ (fun j hj => absurd hj (Nat.not_lt_zero j)) ?_ ?_ w57 w58 (fun a j ha => absurd ha (Nat.not_lt_zero a)) w62 (fun j hj => absurd hj (Nat.not_lt_zero j)) w71 ?_ (fun j hj => absurd hj (Nat.not_lt_zero j)) (fun j hj => absurd hj (Nat.not_lt_zero j)) (fun j hj => absurd hj (Nat.not_lt_zero j)) (fun j hj => absurd hj (Nat.not_lt_zero j)) (fun j hj => absurd hj (Nat.not_lt_zero j)) (fun b hb => w177 b hb) (fun b j hb z => absurd (show false = true from z) (by decide))
      · refine yMH.mk ?_ ?_ ?_ ?_ ?_ ?_ (fun j hj => ?_) (fun j hj => ?_) (fun j hj => ?_) ?_ ?_ ?_ (fun j hj => ?_)
        · rw [q5 41 (by decide), e41]; exact F.nn
        · rw [q5 42 (by decide), e42]; exact F.kk
        · rw [q5 43 (by decide), e43]; exact F.out
        · rw [q5 44 (by decide), e44]; exact F.cock
        · rw [q5 45 (by decide), e45]; exact F.quota
        · rw [q5 46 (by decide), e46]; exact F.puns
        · rw [g5 158 j (by decide) (by decide) (by decide) (by decide) (by omega), (c4 j hj).1, f3' 155 (by decide) (by decide), g2 155 j (by omega)]; exact F.mi j hj
        · rw [g5 159 j (by decide) (by decide) (by decide) (by decide) (by omega), (c4 j hj).2, f3' 156 (by decide) (by decide), g2 156 j (by omega)]; exact F.vo j hj
        · rw [c5 j hj, f4' 157 (by decide) (by decide), f3' 157 (by decide) (by decide), g2 157 j (by omega)]; exact F.sh j hj
        · rw [q5 18 (by decide)]; exact e18'
        · rw [q5 21 (by decide), e21]; exact F.un
        · rw [q5 25 (by decide), e25]; exact b24
        · rw [g5 150 j (by decide) (by decide) (by decide) (by decide) (by omega), f4' 150 (by decide) (by decide), g5 151 j (by decide) (by decide) (by decide) (by decide) (by omega), f4' 151 (by decide) (by decide), (c3 j hj).1, (c3 j hj).2]; exact st j hj
      · rw [q5 27 (by decide), q2 27 (by omega), f1.1 145 27 (by unfold ywsl; omega) (by omega)]; exact hM.m27
      · rw [q5 1 (by decide), q2 1 (by omega)]; exact w1
      · rw [q5 2 (by decide), q2 2 (by omega)]; exact z2
      · rw [q5 3 (by decide), q2 3 (by omega)]; exact tk3
      · rw [q5 72 (by decide), q2 72 (by omega), f1.1 145 72 (by unfold ywsl; omega) (by omega)]; exact hM.tim
    · rw [← (low c hc).1]
      funext j
      rw [h5 c j (by omega) (by omega) (by omega) (by omega) (by omega) (by omega) (by omega) (by omega) (by omega)]
      exact g2 c j (by omega)
    · rw [v5]; exact (low c hc).2
  · rw [if_neg q, if_neg q] at hQ
    have y := N1'.2 q
    have r4 := rI.2.1
    refine zdec (fun _ => hQ I1 ?_ (fun c hc => (low c hc).1) (fun c hc => (low c hc).2)) (fun z => absurd (by rw [y.1]; exact nI_lt (a := 0) (by omega) (by omega)) z)
    have sl : ∀ j, 9 < j → ¬ (j = 17 ∨ j = 19 ∨ j = 20 ∨ (22 ≤ j ∧ j ≤ 24) ∨ (34 ≤ j ∧ j ≤ 40) ∨ (48 ≤ j ∧ j ≤ 51)) → I1.1 145 j = IL.1 145 j := fun j a b => f1.1 145 j (by unfold ywsl; omega) (by omega)
    have ce : ∀ c, 157 < c → I1.1 c = IL.1 c := fun c a => funext (fun j => f1.1 c j (by unfold ywsl; omega) (by omega))
    have ce2 : ∀ c, (c = 150 ∨ c = 151) → I1.1 c = IL.1 c := fun c a => funext (fun j => f1.1 c j (by unfold ywsl; omega) (by omega))
    refine yM.mk ?_ (hM.S.fr (ce 161 (by decide))) (by rw [sl 27 (by decide) (by decide)]; exact hM.m27) w1 (fun j hj => absurd hj (Nat.not_lt_zero j)) y.1 y.2 (by rw [sl 57 (by decide) (by decide)]; exact hM.don) (by rw [sl 58 (by decide) (by decide)]; exact hM.und) (by rw [ce 163 (by decide)]; exact hM.hist) (by rw [sl 62 (by decide) (by decide)]; exact hM.lai) (by rw [ce 165 (by decide)]; exact hM.lie) (by rw [sl 71 (by decide) (by decide)]; exact hM.cnt) (by rw [sl 72 (by decide) (by decide)]; exact hM.tim) (by rw [ce 169 (by decide)]; exact hM.sof) (by rw [ce 170 (by decide)]; exact hM.sno) (by rw [ce 171 (by decide)]; exact hM.sto) (by rw [ce 172 (by decide)]; exact hM.sun) (by rw [ce 173 (by decide)]; exact hM.sis) (by rw [ce 177 (by decide)]; exact hM.bxm) (by rw [ce 178 (by decide)]; exact hM.bx)
    have h := hM.H
    exact yMH.mk (by rw [sl 41 (by decide) (by decide)]; exact h.mem) (by rw [sl 42 (by decide) (by decide)]; exact h.cla) (by rw [sl 43 (by decide) (by decide)]; exact h.out) (by rw [sl 44 (by decide) (by decide)]; exact h.cock) (by rw [sl 45 (by decide) (by decide)]; exact h.quota) (by rw [sl 46 (by decide) (by decide)]; exact h.puns) (by rw [ce 158 (by decide)]; exact h.mi) (by rw [ce 159 (by decide)]; exact h.vo) (by rw [ce 160 (by decide)]; exact h.sh) (by rw [sl 18 (by decide) (by decide)]; exact h.len) (by rw [sl 21 (by decide) (by decide)]; exact h.units) (by rw [sl 25 (by decide) (by decide)]; exact h.form) (by rw [ce2 150 (Or.inl rfl), ce2 151 (Or.inr rfl)]; exact h.ss)
end MHOUSE2
