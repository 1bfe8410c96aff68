/-! change -/
section ACTS2
variable {xs : List Int32} {d : Nat} {Q : zQ} {t : Bool} {IL : zIL} {X : yX} {fa : Int32}
theorem c_change (hI : yI X) (hC : yC t X IL) (hQ : ∀ IL', yC t (x_change X) IL' → (∀ c, 145 ≤ c → IL'.1 c = IL.1 c) → IL'.2 = IL.2 → Q (zFx t, IL') (some (.int (r_change X)))) : zcall xs (d + 4) 96 (zFx t, IL) [.ref 0] Q := by
  have zl := zH_le t
  have n7 := hI.H.n7
  unfold x_change r_change at hQ
  refine sX7_change t IL ?_
  rw [hC.H.mem]
  refine zdec (fun z => ?_) (fun z => ?_)
  · have n0 : X.H.n = 0 := (nI_eq (b := 0) (by omega) (by omega)).mp z
    rw [if_pos n0, if_pos n0] at hQ
    exact hQ IL hC (fun _ _ => rfl) rfl
  · have n0 : ¬ X.H.n = 0 := fun e => z (by rw [e]; rfl)
    rw [if_neg n0, if_neg n0] at hQ
    refine c_keep hI hC (fun IL1 c1 g1 l1 => kV ?_)
    have c1' : yC t (yW X X.S (ydk X) 0 (yhk X)) IL1 := c1
    have cH := c1'.wH
    have cS := c1'.wSS
    refine c_handOver (zSt_22 t) (by decide) hI.H cH cS (fun IL2 f2 s2 => kV ?_)
    have f2' : zfr [22, 22 + 1, zH t + 5, zH t + 7] IL1 IL2 := zfr_le f2 (fun c hc => by simp only [List.mem_cons, List.not_mem_nil, or_false] at hc ⊢; omega)
    have := hQ IL2 (c1'.wS2 f2' s2) (fun c hc => by rw [f2.1 c (by simp only [List.mem_cons, List.not_mem_nil, or_false]; omega), g1 c hc]) (by rw [f2.2, l1])
    rw [s2.out]
    exact this
end ACTS2
