/-! the law: its loop -/
section LOOP2
variable {xs : List Int32} {Q : zQ}
theorem y_len6 {L i : Nat} (hL : L ≤ 3072) (hi : i ≤ 6000) : ((nI L - 6 : Int32) < nI i) ↔ L < i + 6 := by
  have e6 : (6 : Int32).toInt = 6 := by decide
  have e1 : (nI L).toInt = L := nI_toInt (by omega)
  have e2 : (nI i).toInt = i := nI_toInt (by omega)
  have e3 : (nI L - 6 : Int32).toInt = L - 6 := by rw [i_sub (by omega) (by omega) (by omega) (by omega), e1, e6]
  rw [Int32.lt_iff_toInt_lt, e3, e2]
  omega
theorem l_law (hl : xs.length ≤ 3072) (hQ : ∀ M, Q M (some (.int 1))) : ∀ (k i : Nat) (t : Bool) (X : yX) (IL : zIL), xs.length < i + 6 * (k + 1) → i ≤ 3080 → yI X → yC t X IL → yM X IL → gL xs Q 18 [.retAddr 1, .ref 0, .ref 145, .int (nI i)] [] (zFx t, IL) := by
  intro k
  induction k with
  | zero =>
    intro i t X IL hk hi hI h1 h2
    exact lH (zdec (fun _ => hQ _) (fun z => absurd ((y_len6 hl (by omega)).mpr (by omega)) z))
  | succ k ih =>
    intro i t X IL hk hi hI h1 h2
    refine lH (zdec (fun _ => hQ _) (fun z => ?_))
    have hi6 : i + 6 ≤ xs.length := by
      have : ¬ xs.length < i + 6 := fun q => z ((y_len6 (L := xs.length) (i := i) hl (by omega)).mpr q)
      omega
    have nx : ∀ t X IL, yI X → yC t X IL → yM X IL → gL xs Q 1819 [.retAddr 1, .ref 0, .ref 145, .int (nI i)] [] (zFx t, IL) := fun t X IL a b c => lI (by
      rw [show nI i + 6 = nI (i + 6) from nI_add i 6]
      exact ih (i + 6) t X IL (by omega) (by omega) a b c)
    refine zix_n (by omega) (by omega) ?_
    exact (zdec (fun _ => lZ_0 hl hi6 hI h1 h2 nx) (fun _ => (zdec (fun _ => lZ_1 hl hi6 hI h1 h2 nx) (fun _ => (zdec (fun _ => lZ_2 hl hi6 hI h1 h2 nx) (fun _ => (zdec (fun _ => lZ_3 hl hi6 hI h1 h2 nx) (fun _ => (zdec (fun _ => lZ_4 hl hi6 hI h1 h2 nx) (fun _ => (zdec (fun _ => lZ_5 hl hi6 hI h1 h2 nx) (fun _ => (zdec (fun _ => lZ_6 hl hi6 hI h1 h2 nx) (fun _ => (zdec (fun _ => lZ_7 hl hi6 hI h1 h2 nx) (fun _ => (zdec (fun _ => lZ_8 hl hi6 hI h1 h2 nx) (fun _ => (zdec (fun _ => lZ_9 hl hi6 hI h1 h2 nx) (fun _ => (zdec (fun _ => lZ_10 hl hi6 hI h1 h2 nx) (fun _ => (zdec (fun _ => lZ_11 hl hi6 hI h1 h2 nx) (fun _ => (zdec (fun _ => lZ_12 hl hi6 hI h1 h2 nx) (fun _ => (zdec (fun _ => lZ_13 hl hi6 hI h1 h2 nx) (fun _ => (zdec (fun _ => lZ_14 hl hi6 hI h1 h2 nx) (fun _ => (zdec (fun _ => lZ_15 hl hi6 hI h1 h2 nx) (fun _ => (zdec (fun _ => lZ_16 hl hi6 hI h1 h2 nx) (fun _ => (zdec (fun _ => lZ_17 hl hi6 hI h1 h2 nx) (fun _ => (zdec (fun _ => lZ_18 hl hi6 hI h1 h2 nx) (fun _ => (zdec (fun _ => lZ_19 hl hi6 hI h1 h2 nx) (fun _ => (zdec (fun _ => lZ_20 hl hi6 hI h1 h2 nx) (fun _ => (zdec (fun _ => lZ_21 hl hi6 hI h1 h2 nx) (fun _ => (zdec (fun _ => lZ_22 hl hi6 hI h1 h2 nx) (fun _ => (zdec (fun _ => lZ_23 hl hi6 hI h1 h2 nx) (fun _ => (zdec (fun _ => lZ_24 hl hi6 hI h1 h2 nx) (fun _ => (zdec (fun _ => lZ_25 hl hi6 hI h1 h2 nx) (fun _ => (zdec (fun _ => lZ_26 hl hi6 hI h1 h2 nx) (fun _ => (zdec (fun _ => lZ_27 hl hi6 hI h1 h2 nx) (fun _ => (zdec (fun _ => lZ_28 hl hi6 hI h1 h2 nx) (fun _ => (zdec (fun _ => lZ_29 hl hi6 hI h1 h2 nx) (fun _ => (zdec (fun _ => lZ_30 hl hi6 hI h1 h2 nx) (fun _ => (zdec (fun _ => lZ_31 hl hi6 hI h1 h2 nx) (fun _ => (zdec (fun _ => lZ_32 hl hi6 hI h1 h2 nx) (fun _ => (zdec (fun _ => lZ_33 hl hi6 hI h1 h2 nx) (fun _ => (zdec (fun _ => lZ_34 hl hi6 hI h1 h2 nx) (fun _ => (zdec (fun _ => lZ_35 hl hi6 hI h1 h2 nx) (fun _ => (zdec (fun _ => lZ_36 hl hi6 hI h1 h2 nx) (fun _ => (zdec (fun _ => lZ_37 hl hi6 hI h1 h2 nx) (fun _ => (zdec (fun _ => lZ_38 hl hi6 hI h1 h2 nx) (fun _ => (zdec (fun _ => lZ_39 hl hi6 hI h1 h2 nx) (fun _ => (zdec (fun _ => lZ_40 hl hi6 hI h1 h2 nx) (fun _ => (zdec (fun _ => lZ_41 hl hi6 hI h1 h2 nx) (fun _ => (zdec (fun _ => lZ_42 hl hi6 hI h1 h2 nx) (fun _ => (zdec (fun _ => lZ_43 hl hi6 hI h1 h2 nx) (fun _ => (zdec (fun _ => lZ_44 hl hi6 hI h1 h2 nx) (fun _ => (zdec (fun _ => lZ_45 hl hi6 hI h1 h2 nx) (fun _ => (zdec (fun _ => lZ_46 hl hi6 hI h1 h2 nx) (fun _ => (zdec (fun _ => lZ_47 hl hi6 hI h1 h2 nx) (fun _ => (zdec (fun _ => lZ_48 hl hi6 hI h1 h2 nx) (fun _ => (zdec (fun _ => lZ_49 hl hi6 hI h1 h2 nx) (fun _ => (zdec (fun _ => lZ_50 hl hi6 hI h1 h2 nx) (fun _ => (nx t X IL hI h1 h2)))))))))))))))))))))))))))))))))))))))))))))))))))))))))))))))))))))))))))))))))))))))))))))))))))))))
end LOOP2
