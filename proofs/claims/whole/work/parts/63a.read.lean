/-! read -/
section ACTS2
variable {xs : List Int32} {d : Nat} {Q : zQ} {t : Bool} {IL : zIL} {X : yX} {fa : Int32}
theorem c_read {x : Int32} (hI : yI X) (hC : yC t X IL) (hfa : fa = 0 ∨ fa = 1) (hQ : ∀ IL', yC t (x_read X x fa) IL' → (∀ c, 145 ≤ c → IL'.1 c = IL.1 c) → IL'.2 = IL.2 → Q (zFx t, IL') (some (.int (yun X.H X.S x (if ypas X.H (-1) (X.H.sh x.toNatClampNeg) fa X.S then 1 else 0))))) : zcall xs (d + 6) 94 (zFx t, IL) [.ref 0, .int x, .int fa] Q := by
  have zl := zH_le t
  have k6 := hI.H.k6
  refine sX7_read t _ _ IL (c_isUnread hI.H hC.H hC.S (fun h => kI (z0 ?_)) (fun c hc e hb h => kI (z1 ?_)))
  · have := hQ IL (by unfold x_read; rw [yub_n h]; exact hC) (fun _ _ => rfl) rfl
    rw [h] at this
    exact this
  · subst e
    have ex : x_read X (nI c) fa = yread X c fa := by unfold x_read; rw [yub_y k6 hc hb, if_pos rfl, ycl (by omega)]
    rw [ex, h, ycl (by omega)] at hQ
    refine c_keep hI hC (fun IL1 c1 g1 l1 => kV ?_)
    have c1' : yC t (yW X X.S (ydk X) 0 (yhk X)) IL1 := c1
    refine c_sit (zSt_22 t) (by decide) hI.H hfa hc c1'.wH c1'.wSS hI.S (fun IL2 f2 s2 _ _ => kI ?_)
    have c2 := c1'.wS2 f2 s2
    refine c_drawPun (zSt_22 t) (by decide) hI.H c2.wH s2 (fun IL3 f3 s3 => kV ?_)
    have f3' : zfr [22, 22 + 1, zH t + 5, zH t + 7] IL2 IL3 := zfr_le f3 (fun c hc => by simp only [List.mem_cons, List.not_mem_nil, or_false] at hc ⊢; omega)
    have c3 := c2.wS2 f3' s3
    have hi : ∀ {A B : zIL}, zfr [22, 22 + 1, zH t + 5, zH t + 7] A B → ∀ c, 145 ≤ c → B.1 c = A.1 c := fun f c hc => f.1 c (by simp only [List.mem_cons, List.not_mem_nil, or_false]; omega)
    have := hQ IL3 c3 (fun c hc => by rw [hi f3' c hc, hi f2 c hc, g1 c hc]) (by rw [f3.2, f2.2, l1])
    revert this
    cases ypas X.H (-1) (X.H.sh c) fa X.S <;> exact id
end ACTS2
