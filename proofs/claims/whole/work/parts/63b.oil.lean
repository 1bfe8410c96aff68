/-! oil -/
section ACTS2
variable {xs : List Int32} {d : Nat} {Q : zQ} {t : Bool} {IL : zIL} {X : yX} {fa : Int32}
theorem c_oil {x : Int32} (hI : yI X) (hC : yC t X IL) (hQ : ∀ IL', yC t (x_oil X x) IL' → (∀ c, 145 ≤ c → IL'.1 c = IL.1 c) → IL'.2 = IL.2 → Q (zFx t, IL') (some (.int (r_oil X x)))) : zcall xs (d + 4) 95 (zFx t, IL) [.ref 0, .int x] Q := by
  have zl := zH_le t
  have n7 := hI.H.n7
  have no : yob X x = false → Q (zFx t, IL) (some (.int (-1))) := fun h => by
    have := hQ IL (by unfold x_oil; rw [h]; exact hC) (fun _ _ => rfl) rfl
    unfold r_oil at this
    rw [h] at this
    exact this
  refine sX7_oil t _ IL (c_isOut hI.H hC.H hC.S (fun h => kI (z0 (no ?_))) (fun m hm e ho => kI (z1 ?_)))
  · unfold yob
    by_cases a : x < 0
    · rw [decide_eq_true a]; rfl
    · by_cases b : x < nI X.H.n
      · obtain ⟨m, hm, rfl⟩ := y_nat a b (by omega)
        have h0 := h 0
        rw [if_neg a, if_pos b] at h0
        cases eo : bt (X.S 7) (nI m).toNatClampNeg
        · rw [ycl (by omega)] at eo ⊢
          rw [hI.S.inn m (by omega) eo, decide_eq_true rfl, Bool.not_true, Bool.and_false, Bool.and_false]
        · rw [eo] at h0
          exact absurd h0 (by decide)
      · rw [decide_eq_false b, Bool.false_and, Bool.and_false]
  · subst e
    refine zix_n (by omega) (by omega) ?_
    rw [ycl (by omega), show IL.1 23 m = X.S m from hC.S.no m (by omega)]
    obtain ⟨v, hv, ev⟩ := yin_ex (n := 99) (hI.S.no m (by omega))
    rcases Nat.eq_zero_or_pos v with h | h
    · refine zdec (fun z => absurd z (by rw [ev, h]; decide)) (fun _ => no ?_)
      unfold yob
      rw [ycl (by omega), ev, h, decide_eq_true (p := nI 0 = 0) rfl, Bool.not_true, Bool.and_false, Bool.and_false]
    · have hy : yob X (nI m) = true := by
        unfold yob
        rw [ycl (by omega), decide_eq_false (nI_pos (by omega)), decide_eq_true (nI_lt hm (by omega)), ev, decide_eq_false (nI_ne0 h (by omega))]
        rfl
      have ex : x_oil X (nI m) = yoil X m := by unfold x_oil; rw [hy, if_pos rfl, ycl (by omega)]
      have er : r_oil X (nI m) = X.S m - 1 := by unfold r_oil; rw [hy, if_pos rfl, ycl (by omega)]
      rw [ex, er] at hQ
      refine zdec (fun _ => c_keep hI hC (fun IL1 c1 g1 l1 => kV (zix_n (by omega) (by omega) (zix_n (by omega) (by omega) (zix_n (by omega) (by omega) ?_))))) (fun z => absurd (by rw [ev]; exact nI_lt (a := 0) h (by omega)) z)
      have c1' : yC t (yW X X.S (ydk X) 0 (yhk X)) IL1 := c1
      have cS := c1'.wSS
      have e1 : IL1.1 23 m = X.S m := cS.no m (by omega)
      rw [e1, zwi_at, if_pos rfl]
      have f2 : zfr [22, 22 + 1, zH t + 5, zH t + 7] IL1 (zwi IL1 23 m (X.S m - 1)) := zfr_wi (by simp)
      have h7 : ∀ j, 7 ≤ j → yS' X.S m (X.S m - 1) j = X.S j := fun j hj => by unfold yS'; rw [if_neg (by omega)]
      refine hQ _ (c1'.wS2 f2 ?_) (fun c hc => by rw [zwi_ne (by omega), g1 c hc]) (by show IL1.2 = _; rw [l1])
      have q := cS
      unfold yCS
      refine ⟨fun j hj => ?_, ?_, ?_, ?_, ?_⟩
      · unfold yS'
        rw [zwi_at]
        by_cases e : j = m
        · rw [if_pos e, if_pos e]
        · rw [if_neg e, if_neg e]; exact q.no j hj
      · rw [zwi_ne (by decide), h7 7 (by decide)]; exact q.out
      · rw [zwi_ne (by decide), h7 8 (by decide)]; exact q.read
      · rw [zwi_ne (by decide), h7 9 (by decide)]; exact q.car
      · rw [zwi_ne (by decide), h7 10 (by decide)]; exact q.seed
end ACTS2
