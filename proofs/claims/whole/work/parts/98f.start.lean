/-! every script: the law's run ends with 1 -/
theorem erf_m : ∀ (R : List (Nat × Nat × Nat)) (c j t : Nat), erf R c j = some t → (c, j, t) ∈ R
  | [], c, j, t, h => by cases h
  | e :: r, c, j, t, h => by
    unfold erf at h
    by_cases e1 : c = e.1
    · rw [if_pos e1] at h
      by_cases e2 : j = e.2.1
      · rw [if_pos e2] at h
        have e3 := Option.some.inj h
        rw [e1, e2, ← e3]
        exact List.mem_cons_self
      · rw [if_neg e2] at h
        exact List.mem_cons_of_mem _ (erf_m r c j t h)
    · rw [if_neg e1] at h
      exact List.mem_cons_of_mem _ (erf_m r c j t h)
theorem esh_n : ∀ (L : List (Nat × (Nat ⊕ (Nat × Nat)))), L.all (fun e => Nat.blt e.1 179) = true → ∀ c, 179 ≤ c → esh L c = .inr (9, 0)
  | [], _, _, _ => rfl
  | e :: r, h, c, hc => by
    rw [List.all_cons, Bool.and_eq_true] at h
    have h1 : e.1 < 179 := Nat.blt_eq.mp h.1
    unfold esh
    rw [if_neg (by omega)]
    exact esh_n r h.2 c hc
theorem zshl_l : zshl.length = 179 := by decide +kernel
theorem zrl_l : (zrl false).length ≤ 179 := by decide +kernel
theorem eck_F {E : eM} (h : eck E = true) : (emem E).1 = zFx false := by
  unfold eck at h
  simp only [Bool.and_eq_true] at h
  obtain ⟨⟨n1, n2⟩, ⟨h1, h2⟩, h3, _⟩ := h
  have e1 := Nat.eq_of_beq_eq_true n1
  have e2 := Nat.eq_of_beq_eq_true n2
  have e3 : esh E.2.2.1 = fun c => zshl.getD c (.inr (9, 0)) := by
    funext c
    unfold eck1 at h1
    rw [Bool.and_eq_true] at h1
    by_cases q : c < 179
    · exact of_decide_eq_true (List.all_eq_true.mp h1.1 c (List.mem_range.mpr q))
    · rw [esh_n _ h1.2 c (by omega), List.getD_eq_getElem?_getD, List.getElem?_eq_none (by rw [zshl_l]; omega)]
      rfl
  have e4 : erf E.2.2.2.1 = fun c j => ((zrl false).getD c []).getD j none := by
    funext c j
    by_cases q : c < 179 ∧ j < ((zrl false).getD c []).length
    · have a := List.all_eq_true.mp h3 c (List.mem_range.mpr q.1)
      exact (of_decide_eq_true (List.all_eq_true.mp a j (List.mem_range.mpr q.2))).symm
    · have tn : ((zrl false).getD c []).getD j none = none := by
        by_cases qc : c < 179
        · have qj : ((zrl false).getD c []).length ≤ j := by
            have : ¬ j < ((zrl false).getD c []).length := fun z => q ⟨qc, z⟩
            omega
          rw [List.getD_eq_getElem?_getD (l := (zrl false).getD c []), List.getElem?_eq_none qj]
          rfl
        · have l := zrl_l
          have e0 : (zrl false).getD c [] = [] := by
            rw [List.getD_eq_getElem?_getD, List.getElem?_eq_none (by omega)]
            rfl
          rw [e0]
          rfl
      rw [tn]
      cases e : erf E.2.2.2.1 c j with
      | none => rfl
      | some t =>
        have m := List.all_eq_true.mp h2 _ (erf_m _ _ _ _ e)
        have m2 := of_decide_eq_true m
        have m3 : ((zrl false).getD c []).getD j none = some t := m2
        rw [tn] at m3
        cases m3
  show (E.1, E.2.1, esh E.2.2.1, erf E.2.2.2.1) = _
  rw [e1, e2, e3, e4]
  rfl
def yX0 : yX := yX.mk yH0 (fun _ => 0) 0 (fun _ => 0) 0 (-1) 0 0 (fun _ _ => 0) 0 (fun _ => 0) 0 0 (fun _ => 0) (fun _ => 0) (fun _ => false) (fun _ => 0) (fun _ => 0) (fun _ => false) (fun _ _ => 0)
theorem yX0_I : yI yX0 := by
  refine yI.mk yH0_ok ?_ (Nat.zero_le _) (fun j hj => absurd hj (Nat.not_lt_zero j)) (Nat.zero_le _) (fun j hj => absurd hj (Nat.not_lt_zero j)) (Nat.zero_le _) (Nat.zero_le _) ⟨by decide, by decide⟩ (fun j hj => absurd hj (Nat.not_lt_zero j)) (fun j hj => absurd hj (Nat.not_lt_zero j)) (fun j hj => absurd hj (Nat.not_lt_zero j)) (fun b hb z => absurd (show false = true from z) (by decide))
  exact ySB.mk (fun j hj => ⟨by show (0 : Int) ≤ (0 : Int32).toInt; decide, by show (0 : Int32).toInt ≤ (99 : Int); decide⟩) (fun j hj _ => rfl) (fun i _ => b_0 i) (fun i _ => b_0 i) (fun i _ => b_0 i) ⟨by show (0 : Int) ≤ (0 : Int32).toInt; decide, by show (0 : Int32).toInt ≤ (999 : Int); decide⟩
theorem y_lt3 {P : Nat → Prop} (h0 : P 0) (h1 : P 1) (h2 : P 2) : ∀ j, j < 3 → P j := fun j hj => by
  match j, hj with
  | 0, _ => exact h0
  | 1, _ => exact h1
  | 2, _ => exact h2
theorem eck_CM {E : eM} (h : eck E = true) : yC false yX0 (emem E).2 ∧ yM yX0 (emem E).2 := by
  unfold eck at h
  simp only [Bool.and_eq_true] at h
  obtain ⟨_, _, _, h4⟩ := h
  unfold eck4 at h4
  rw [Bool.and_eq_true] at h4
  have F : ∀ c j v, (c, j, v) ∈ eIF → (emem E).2.1 c j = v := fun c j v m => of_decide_eq_true (List.all_eq_true.mp h4.1 _ m)
  have G : ∀ w, w < 18 → (emem E).2.2 5 w = ywc w := fun w hw => of_decide_eq_true (List.all_eq_true.mp h4.2 w (List.mem_range.mpr hw))
  generalize (emem E).2 = IL at F G
  have F23 : ∀ j, j < 7 → IL.1 23 j = 0 := fun j hj => by
    match j, hj with
    | 0, _ => exact F 23 0 0 (by decide)
    | 1, _ => exact F 23 1 0 (by decide)
    | 2, _ => exact F 23 2 0 (by decide)
    | 3, _ => exact F 23 3 0 (by decide)
    | 4, _ => exact F 23 4 0 (by decide)
    | 5, _ => exact F 23 5 0 (by decide)
    | 6, _ => exact F 23 6 0 (by decide)
  have F161 : ∀ j, j < 11 → IL.1 161 j = 0 := fun j hj => by
    match j, hj with
    | 0, _ => exact F 161 0 0 (by decide)
    | 1, _ => exact F 161 1 0 (by decide)
    | 2, _ => exact F 161 2 0 (by decide)
    | 3, _ => exact F 161 3 0 (by decide)
    | 4, _ => exact F 161 4 0 (by decide)
    | 5, _ => exact F 161 5 0 (by decide)
    | 6, _ => exact F 161 6 0 (by decide)
    | 7, _ => exact F 161 7 0 (by decide)
    | 8, _ => exact F 161 8 0 (by decide)
    | 9, _ => exact F 161 9 0 (by decide)
    | 10, _ => exact F 161 10 0 (by decide)
  have Z : ∀ {α : Prop} (j : Nat), j < 0 → α := fun j hj => absurd hj (Nat.not_lt_zero j)
  constructor
  · refine yC.mk (yCH.mk (F 6 0 0 (by decide)) (F 6 1 0 (by decide)) (F 6 4 0 (by decide)) (F 6 6 10 (by decide)) (F 6 7 1 (by decide)) (F 6 8 0 (by decide)) (F 6 9 0 (by decide)) (fun j hj => Z j hj) (fun j hj => Z j hj) (fun j hj => Z j hj) (F 10 0 0 (by decide)) (F 10 1 0 (by decide)) (fun j hj => Z j hj)) ⟨F23, F 22 1 0 (by decide), F 22 2 0 (by decide), F 22 3 0 (by decide), F 22 4 0 (by decide)⟩ (F 1 0 0 (by decide)) (fun j hj => Z j hj) (F 1 1 0 (by decide)) (F 1 2 (-1) (by decide)) (F 26 0 0 (by decide)) (F 26 1 0 (by decide)) ⟨0, by decide, F 26 2 0 (by decide), fun a ha => Z a ha⟩ (F 0 11 0 (by decide)) (fun j hj => Z j hj) (F 128 0 0 (by decide)) (F 128 1 0 (by decide)) (F 128 2 0 (by decide)) (fun j hj => Z j hj) (fun j hj => Z j hj) (fun j hj => Z j hj) (fun j hj => Z j hj) (fun j hj => Z j hj) (fun z => absurd (show yope yH0 = true from z) (by decide)) (fun b hb => ?_) (fun b hb z => absurd (show false = true from z) (by decide)) G
    rw [F 0 9 0 (by decide)]
    exact b_0 b
  · exact yM.mk (yMH.mk (F 145 41 0 (by decide)) (F 145 42 0 (by decide)) (F 145 43 0 (by decide)) (F 145 44 10 (by decide)) (F 145 45 1 (by decide)) (F 145 46 0 (by decide)) (fun j hj => Z j hj) (fun j hj => Z j hj) (fun j hj => Z j hj) (F 145 18 0 (by decide)) (F 145 21 0 (by decide)) ⟨fun _ => rfl, fun _ => F 145 25 0 (by decide)⟩ (fun j hj => Z j hj)) F161 (F 145 27 (-1) (by decide)) (F 145 1 0 (by decide)) (fun j hj => Z j hj) (F 145 2 0 (by decide)) (F 145 3 (-1) (by decide)) (F 145 57 0 (by decide)) (F 145 58 0 (by decide)) (fun a j ha => Z a ha) (F 145 62 0 (by decide)) (fun j hj => Z j hj) (F 145 71 0 (by decide)) (F 145 72 0 (by decide)) (fun j hj => Z j hj) (fun j hj => Z j hj) (fun j hj => Z j hj) (fun j hj => Z j hj) (fun j hj => Z j hj) (y_lt3 (F 177 0 0 (by decide)) (F 177 1 0 (by decide)) (F 177 2 0 (by decide))) (fun b j hb z => absurd (show false = true from z) (by decide))
section START
variable {xs : List Int32} {Q : zQ}
set_option maxRecDepth 100000 in
theorem lw_0 (hh : zcall xs 100 86 (znew zM0 (.inl 7) 14) [.ref 0] (zuV 145 3481 fun M => gL xs Q 7 [.retAddr 1, .retAddr 0, .retAddr 0, .retAddr 0] [.ref 0] M)) : gL xs Q 0 [.retAddr 1, .retAddr 0, .retAddr 0, .retAddr 0] [] zM0 := zseg (zcall_m xs 100) 4 [7] ⟨Nat.le_of_ble_eq_true rfl, Nat.le_of_ble_eq_true rfl, Nat.le_of_ble_eq_true rfl, Nat.le_of_ble_eq_true rfl, hh⟩
set_option maxRecDepth 100000 in
theorem lw_7 {S : Nat → Nat ⊕ (Nat × Nat)} {R : Nat → Nat → Option Nat} {IL : zIL} (hh : zcall xs 100 153 (znew ((145, 3481, S, R), IL) (.inl 8) 78) [.ref 145] (zuV 179 7611 fun M => gL xs Q 15 [.retAddr 1, .ref 0, .retAddr 0, .retAddr 0] [.ref 145] M)) : gL xs Q 7 [.retAddr 1, .retAddr 0, .retAddr 0, .retAddr 0] [.ref 0] ((145, 3481, S, R), IL) := zseg (zcall_m xs 100) 5 [15] ⟨Nat.le_of_ble_eq_true rfl, Nat.le_of_ble_eq_true rfl, Nat.le_of_ble_eq_true rfl, Nat.le_of_ble_eq_true rfl, hh⟩
theorem lw_15 {M : zM} (hh : gL xs Q 18 [.retAddr 1, .ref 0, .ref 145, .int 0] [] M) : gL xs Q 15 [.retAddr 1, .ref 0, .retAddr 0, .retAddr 0] [.ref 145] M := zseg (zcall_m xs 100) 5 [18] hh
theorem law_all (hl : xs.length ≤ 3072) : zlaw xs := by
  have T := eTst_ok
  unfold eTst at T
  unfold zlaw
  split at T
  · rename_i E1 r1
    split at T
    · rename_i E2 k1 k2 r2
      split at T
      · rename_i E3 r3
        have e0 : znew zM0 (.inl 7) 14 = emem eE0 := enew_s (E := (0, 0, [], [], [], [])) rfl
        refine lw_0 ?_
        rw [e0]
        show zgo xs (zcall xs 99) 145 3481 (zcode 86) _ 0 (zlocs [.ref 0] (znl 86)) [] (emem eE0)
        refine e_run_s _ _ _ _ _ _ _ _ _ _ r1 _ ?_
        obtain ⟨n, s, L, R, I, G⟩ := E1
        have en : n = 145 := Nat.eq_of_beq_eq_true k1
        have es : s = 3481 := Nat.eq_of_beq_eq_true k2
        subst en es
        refine ⟨rfl, rfl, ?_⟩
        refine lw_7 (S := esh L) (R := erf R) (IL := (eli I, ell G)) ?_
        have e2 := enew_s r2
        rw [show znew ((145, 3481, esh L, erf R), (eli I, ell G)) (.inl 8) 78 = emem E2 from e2]
        have n2 : zn (emem E2) = 146 ∧ zsl (emem E2) = 3559 := by
          rw [← e2]
          exact ⟨rfl, rfl⟩
        have call : zgo xs (zcall xs 99) (zn (emem E2) + 33) (zsl (emem E2) + 4052) (zcode 153) (zuV 179 7611 fun M => gL xs (fun _ r => r = some (.int 1)) 15 [.retAddr 1, .ref 0, .retAddr 0, .retAddr 0] [.ref 145] M) 0 (zlocs [.ref 145] (znl 153)) [] (emem E2) := by
          rw [n2.1, n2.2]
          refine e_run_s _ _ _ _ _ _ _ _ _ _ r3 _ ?_
          have ef := eck_F T
          have cm := eck_CM T
          refine ⟨by show (emem E3).1.1 = 179; rw [ef]; rfl, by show (emem E3).1.2.1 = 7611; rw [ef]; rfl, ?_⟩
          show gL xs (fun _ r => r = some (.int 1)) 15 [.retAddr 1, .ref 0, .retAddr 0, .retAddr 0] [.ref 145] ((emem E3).1, (emem E3).2)
          rw [ef]
          refine lw_15 ?_
          exact l_law (Q := fun _ r => r = some (.int 1)) hl (fun _ => rfl) 600 0 false yX0 _ (by omega) (by decide) yX0_I cm.1 cm.2
        exact call
      · cases T
    · cases T
  · cases T
end START
