/-! image -/
section ACTS2
variable {xs : List Int32} {d : Nat} {Q : zQ} {t : Bool} {IL : zIL} {X : yX} {fa : Int32}
theorem y_b3 {x : Int32} (h0 : ¬ x < 0) (h : x < 3) : ∃ b, b < 3 ∧ x = nI b := y_nat (n := 3) h0 h (by decide)
theorem ybb_y {b : Nat} (hb : b < 3) : ybb (nI b) = true := by
  show (!decide (nI b < 0) && decide (nI b < nI 3)) = true
  rw [decide_eq_false (nI_pos (by omega)), decide_eq_true (nI_lt (b := 3) hb (by omega))]
  rfl
theorem c_image {x : Int32} (hI : yI X) (hC : yC t X IL) (hQ : ∀ IL', yC t (x_image X x) IL' → (∀ c, 145 ≤ c → IL'.1 c = IL.1 c) → IL'.2 = IL.2 → Q (zFx t, IL') (some (.int (r_image X x)))) : zcall xs (d + 2) 135 (zFx t, IL) [.ref 0, .int x] Q := by
  have k6 := hI.H.k6
  unfold x_image r_image at hQ
  have no : ybb x = false → Q (zFx t, IL) (some (.int (-1))) := fun h => by
    rw [h] at hQ
    exact hQ IL hC (fun _ _ => rfl) rfl
  refine sX7_image t _ IL (zdec (fun z => no (by unfold ybb; rw [decide_eq_true z]; rfl)) (fun z => zdec (fun w => ?_) (fun w => no (by unfold ybb; rw [decide_eq_false w, Bool.and_false]))))
  obtain ⟨b, hb, rfl⟩ := y_b3 z w
  rw [ybb_y hb, if_pos rfl, if_pos rfl, ycl (by omega)] at hQ
  refine zix_n hb (by decide) ?_
  rw [ycl (by omega), zR_b t hb]
  show zck (zS (zFx t, IL) (139 + 2 * b)) 6 _
  rw [(zSt_b t hb).1, zck_r]
  refine c_copy (zSt_b t hb) (zSt_22 t) ⟨by omega, by omega, by omega⟩ hC.S (fun IL2 f2 s2 => kV (c_bitCount (kI ?_)))
  have kc : ∀ c, c ≠ 0 → c ≠ 139 + 2 * b → c ≠ 139 + 2 * b + 1 → (zwi IL2 0 9 (IL2.1 0 9 ||| (1 <<< (nI b &&& 31)))).1 c = IL.1 c := fun c h0 h1 h2 => by
    rw [zwi_ne h0, f2.1 c (by simp only [List.mem_cons, List.not_mem_nil, or_false]; omega)]
  have k0 : IL2.1 0 = IL.1 0 := f2.1 0 (by simp only [List.mem_cons, List.not_mem_nil, or_false]; omega)
  have e2 : (zwi IL2 0 9 (IL2.1 0 9 ||| (1 <<< (nI b &&& 31)))).1 22 2 = X.S 8 := by rw [kc 22 (by decide) (by omega) (by omega)]; exact hC.S.read
  rw [e2, y_cnt (fun i hi => hI.S.read i (by omega))]
  refine hQ _ ?_ (fun c hc => kc c (by omega) (by omega) (by omega)) (by show IL2.2 = _; rw [f2.2])
  have g0 : ∀ j, j ≠ 9 → (zwi IL2 0 9 (IL2.1 0 9 ||| (1 <<< (nI b &&& 31)))).1 0 j = IL.1 0 j := fun j hj => by rw [zwi_at, if_neg hj, k0]
  have g : ∀ c, c < 139 → c ≠ 0 → ∀ j, (zwi IL2 0 9 (IL2.1 0 9 ||| (1 <<< (nI b &&& 31)))).1 c j = IL.1 c j := fun c h1 h2 j => by rw [kc c h2 (by omega) (by omega)]
  have zl := zH_le t
  have zg := zH_ge t
  obtain ⟨o, h1, h2, h3⟩ := hC.hist
  refine yC.mk (hC.H.fr (fun i _ _ _ => kc _ (by omega) (by omega) (by omega))) (hC.S.fr (kc 22 (by decide) (by omega) (by omega)) (kc 23 (by decide) (by omega) (by omega))) ?_ ?_ ?_ ?_ ?_ ?_ ⟨o, h1, ?_, fun a ha => ?_⟩ ?_ ?_ ?_ ?_ ?_ ?_ ?_ ?_ ?_ ?_ ?_ (fun j hj => ?_) (fun j hj hx => ?_) ?_
  · rw [g 1 (by decide) (by decide)]; exact hC.len
  · intro j hj; rw [g 2 (by decide) (by decide)]; exact hC.tape j hj
  · rw [g 1 (by decide) (by decide)]; exact hC.fau
  · rw [g 1 (by decide) (by decide)]; exact hC.pla
  · rw [g 26 (by decide) (by decide)]; exact hC.don
  · rw [g 26 (by decide) (by decide)]; exact hC.und
  · rw [g 26 (by decide) (by decide)]; exact h2
  · have hm : (o + a) % 40 < 40 := Nat.mod_lt _ (by decide)
    exact (h3 a ha).fr (kc _ (by omega) (by omega) (by omega)) (kc _ (by omega) (by omega) (by omega))
  · rw [g0 11 (by decide)]; exact hC.lai
  · intro j hj; rw [g 136 (by decide) (by decide)]; exact hC.lie j hj
  · rw [g 128 (by decide) (by decide)]; exact hC.cnt
  · rw [g 128 (by decide) (by decide)]; exact hC.tim
  · rw [g 128 (by decide) (by decide)]; exact hC.ope
  · intro j hj; rw [g 129 (by decide) (by decide)]; exact hC.sof j hj
  · intro j hj; rw [g 130 (by decide) (by decide)]; exact hC.sno j hj
  · intro j hj; rw [g 131 (by decide) (by decide)]; exact hC.sis j hj
  · intro j hj; rw [g 132 (by decide) (by decide)]; exact hC.sto j hj
  · intro j hj; rw [g 133 (by decide) (by decide)]; exact hC.sun j hj
  · intro a v n hv hn; rw [g 134 (by decide) (by decide)]; exact hC.trk a v n hv hn
  · rw [zwi_at, if_pos rfl, k0, b_or, b_one (by omega) (by omega), hC.bxm j hj, Bool.or_comm]
    rfl
  · by_cases e : j = b
    · subst e
      have : (yimg X j).bx j = X.S := by show (if j = j then X.S else X.bx j) = X.S; rw [if_pos rfl]
      rw [this]
      exact s2.fr (zwi_ne (by omega)) (zwi_ne (by omega))
    · have e1 : (yimg X b).bx j = X.bx j := by show (if j = b then X.S else X.bx j) = X.bx j; rw [if_neg e]
      have e2 : X.bxf j = true := by
        have : (decide (j = b) || X.bxf j) = true := hx
        rw [decide_eq_false e, Bool.false_or] at this
        exact this
      rw [e1]
      exact (hC.bx j hj e2).fr (kc _ (by omega) (by omega) (by omega)) (kc _ (by omega) (by omega) (by omega))
  · intro w hw
    show IL2.2 5 w = _
    rw [f2.2]
    exact hC.cod w hw
end ACTS2
