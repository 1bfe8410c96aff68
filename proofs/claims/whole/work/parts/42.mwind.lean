/-! how much one winds: the model's side -/
def ybin (k : Int32) : Prop := k = 37 ∨ k = 42 ∨ k = 43 ∨ k = 45 ∨ k = 47 ∨ k = 60 ∨ k = 61 ∨ k = 62 ∨ k = 109 ∨ k = 110
def ysg (k : Int32) : Int32 := if k = 109 then 124 else if k = 110 then 38 else k
section MWIND
variable {xs : List Int32} {d : Nat} {Q : zQ} {t : Bool} {IL : zIL}
theorem c_truth1 (h : Q (zFx t, IL) (some (.int 1))) : zcall xs (d + 1) 184 (zFx t, IL) [.int 1] Q := sX8_truth t 1 IL h
theorem c_truth0 (h : Q (zFx t, IL) (some (.int 0))) : zcall xs (d + 1) 184 (zFx t, IL) [.int 0] Q := sX8_truth t 0 IL h
theorem c_truth {b : Bool} (h : Q (zFx t, IL) (some (.int (if b then 1 else 0)))) : zcall xs (d + 1) 184 (zFx t, IL) [.int (if b then 1 else 0)] Q := by
  cases b
  · exact c_truth0 h
  · exact c_truth1 h
theorem c_done {k a b : Int32} (hk : ybin k) (h : Q (zFx t, IL) (some (.int (zjo k a b)))) : zcall xs (d + 2) 185 (zFx t, IL) [.int (ysg k), .int a, .int b] Q := by
  refine sX8_done t _ a b IL ?_
  rcases hk with rfl | rfl | rfl | rfl | rfl | rfl | rfl | rfl | rfl | rfl
  · exact zif_R (fun v => Q (zFx t, IL) (some (.int v))) (c := b = 0) (a := 0) (b := a - a / b * b) h (fun _ h => h) (fun z h => ⟨z, h⟩)
  · exact h
  · exact h
  · exact h
  · exact zif_R (fun v => Q (zFx t, IL) (some (.int v))) (c := b = 0) (a := 0) (b := a / b) h (fun _ h => h) (fun z h => ⟨z, h⟩)
  · exact zif_R (fun v => Q (zFx t, IL) (some (.int v))) (c := a < b) (a := 1) (b := 0) h (fun _ h => c_truth1 ⟨rfl, h⟩) (fun z h => c_truth0 ⟨rfl, h⟩)
  · exact zif_R (fun v => Q (zFx t, IL) (some (.int v))) (c := a = b) (a := 1) (b := 0) h (fun _ h => c_truth1 ⟨rfl, h⟩) (fun z h => c_truth0 ⟨rfl, h⟩)
  · exact zif_R (fun v => Q (zFx t, IL) (some (.int v))) (c := b < a) (a := 1) (b := 0) h (fun _ h => c_truth1 ⟨rfl, h⟩) (fun z h => c_truth0 ⟨rfl, h⟩)
  · exact zif_R (fun v => Q (zFx t, IL) (some (.int v))) (c := a = 0) (a := if b = 0 then 0 else 1) (b := 1) h (fun _ h => zif_R (fun v => Q (zFx t, IL) (some (.int v))) (c := b = 0) (a := 0) (b := 1) h (fun _ h => c_truth0 ⟨rfl, h⟩) (fun z h => c_truth1 ⟨rfl, h⟩)) (fun z h => c_truth1 ⟨rfl, h⟩)
  · exact zif_R (fun v => Q (zFx t, IL) (some (.int v))) (c := a = 0) (a := 0) (b := if b = 0 then 0 else 1) h (fun _ h => c_truth0 ⟨rfl, h⟩) (fun z h => zif_R (fun v => Q (zFx t, IL) (some (.int v))) (c := b = 0) (a := 0) (b := 1) h (fun _ h => c_truth0 ⟨rfl, h⟩) (fun z h => c_truth1 ⟨rfl, h⟩))
end MWIND
