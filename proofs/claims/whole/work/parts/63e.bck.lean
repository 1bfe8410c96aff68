/-! back -/
section ACTS2
variable {xs : List Int32} {d : Nat} {Q : zQ} {t : Bool} {IL : zIL} {X : yX} {fa : Int32}
theorem c_back {x : Int32} (hI : yI X) (hC : yC t X IL) (hQ : ∀ IL', yC t (x_back X x) IL' → (∀ c, 145 ≤ c → IL'.1 c = IL.1 c) → IL'.2 = IL.2 → Q (zFx t, IL') (some (.int (r_back X x)))) : zcall xs (d + 2) 136 (zFx t, IL) [.ref 0, .int x] Q := by
  have k6 := hI.H.k6
  unfold x_back r_back at hQ
  have no : (ybb x && X.bxf x.toNatClampNeg) = false → Q (zFx t, IL) (some (.int (-1))) := fun h => by
    rw [h] at hQ
    exact hQ IL hC (fun _ _ => rfl) rfl
  refine sX7_back t _ IL (zdec (fun z => no (by unfold ybb; rw [decide_eq_true z]; rfl)) (fun z => zdec (fun w => ?_) (fun w => no (by unfold ybb; rw [decide_eq_false w, Bool.and_false, Bool.false_and]))))
  obtain ⟨b, hb, rfl⟩ := y_b3 z w
  refine c_has (by omega) (fun hx => kI (z0 (no ?_))) (fun hx => kI (z1 (zix_n hb (by decide) ?_)))
  · rw [hC.bxm b hb] at hx
    rw [ycl (by omega), hx, Bool.and_false]
  · rw [hC.bxm b hb] at hx
    rw [ybb_y hb, ycl (by omega), hx, Bool.and_self, if_pos rfl, if_pos rfl] at hQ
    rw [ycl (by omega), zR_b t hb]
    show zcall xs (d + 1) 80 (zFx t, IL) [.ref 22, .ref (139 + 2 * b)] _
    refine c_copy (zSt_22 t) (zSt_b t hb) ⟨by omega, by omega, by omega⟩ (hC.bx b hb hx) (fun IL2 f2 s2 => kV (sX3_clear t IL2 (kV (c_bitCount (kI ?_)))))
    have zl := zH_le t
    have kc : ∀ c, c ≠ 26 → c ≠ 22 → c ≠ 23 → (zwi (zwi IL2 26 0 0) 26 1 0).1 c = IL.1 c := fun c h0 h1 h2 => by
      rw [zwi_ne h0, zwi_ne h0, f2.1 c (by simp only [List.mem_cons, List.not_mem_nil, or_false]; omega)]
    have s3 : yCS 22 (X.bx b) (zwi (zwi IL2 26 0 0) 26 1 0) := s2.fr (by rw [zwi_ne (by decide), zwi_ne (by decide)]) (by rw [zwi_ne (by decide), zwi_ne (by decide)])
    rw [s3.read, y_cnt (fun i hi => (hI.bx b hb hx).read i (by omega))]
    obtain ⟨o, h1, h2, h3⟩ := hC.hist
    refine hQ _ (hC.gen (fun c h1 h2 h3 h4 h5 => kc c (by omega) h3 h4) (by show IL2.2 5 = _; rw [f2.2]) s3 (by rw [zwi_at, if_neg (by decide), zwi_at, if_pos rfl]; rfl) (by rw [zwi_at, if_pos rfl]; rfl) ⟨o, h1, ?_, fun a ha => absurd ha (Nat.not_lt_zero a)⟩) (fun c hc => kc c (by omega) (by omega) (by omega)) (by show IL2.2 = _; rw [f2.2])
    rw [zwi_at, if_neg (by decide), zwi_at, if_neg (by decide), f2.1 26 (by simp only [List.mem_cons, List.not_mem_nil, or_false]; omega)]
    exact h2
end ACTS2
