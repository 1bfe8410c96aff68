/-! the constructors' run, and the law's beginning -/
theorem z_char : zwords.all (fun w => decide ((Int32.toUInt32 (w &&& 255) % 65536).toInt32 = w) && (decide (w = nI w.toNatClampNeg) && Nat.blt w.toNatClampNeg 65536)) = true := by decide +kernel
section CHAR
variable {xs : List Int32} {d : Nat} {Q : zQ} {F : zF} {IL : zIL}
set_option maxRecDepth 100000 in
theorem c_charAt {i : Int32} (h0 : decide (i < 0) = false) (h1 : Nat.ble 144 i.toNatClampNeg = false) (hQ : Q (F, IL) (some (.int (zwords.getD i.toNatClampNeg 0)))) : zcall xs (d + 4) 12 (F, IL) [.retAddr 3, .int i] Q := by
  have n0 : ¬ i < 0 := of_decide_eq_false h0
  have l1 : i.toNatClampNeg < 144 := by
    have : ¬ 144 ≤ i.toNatClampNeg := fun q => by rw [Nat.ble_eq_true_of_le q] at h1; cases h1
    omega
  have wl : zwords.length = 144 := rfl
  have e0 : ¬ i.toInt < 0 := fun z => n0 (Int32.lt_iff_toInt_lt.mpr (by rw [y0]; exact z))
  have e1 : i.toInt.toNat < 144 := l1
  have lt : i < nI zwords.length := Int32.lt_iff_toInt_lt.mpr (by rw [wl, nI_toInt (by decide)]; omega)
  have mem : zwords.getD i.toNatClampNeg 0 ∈ zwords := by
    rw [List.getD_eq_getElem?_getD, List.getElem?_eq_getElem (by rw [wl]; exact l1)]
    exact List.getElem_mem _
  have z := List.all_eq_true.mp z_char _ mem
  simp only [Bool.and_eq_true, decide_eq_true_eq] at z
  have nar : narrow .char (.int (zwords.getD i.toNatClampNeg 0)) = .int (zwords.getD i.toNatClampNeg 0) := by
    generalize zwords.getD i.toNatClampNeg 0 = w at z
    rw [z.2.1]
    exact (pk_charN (Nat.blt_eq.mp z.2.2)).1
  refine sJ0_charAt_5068e F i IL (sJ0_isLatin1_aae02_3 F IL (kI (z1 ?_)))
  refine sJ1_charAt_3b067 (d := d + 2) F i IL ?_
  refine sJ0_checkIndex_df160 (d := d + 1) F i (nI zwords.length) IL ?_
  refine sJ3_checkIndex_8e157 (d := d) F i (nI zwords.length) IL ?_
  refine zdec (fun q => absurd q n0) (fun _ => ?_)
  refine zdec (fun _ => ?_) (fun q => absurd lt q)
  refine kI ?_
  refine kV ?_
  have ix : ∀ P : Prop, P → zix i zwords.length P := fun P p => by
    unfold zix
    rw [h0, wl, h1]
    exact p
  refine ix _ ?_
  rw [z.1]
  exact ⟨nar, kI ⟨nar, hQ⟩⟩
end CHAR
theorem e_run_s {xs : List Int32} : ∀ (f d Bn Bs : Nat) (cd : List zE) (pc : Nat) (ls st : List Value) (E : eM) (R : eM × Option Value), e_run f d Bn Bs cd pc ls st E = some R → ∀ Q : zQ, Q (emem R.1) R.2 → zgo xs (zcall xs d) Bn Bs cd Q pc ls st (emem E)
  | 0, _, _, _, _, _, _, _, _, _, h, _, _ => by cases h
  | f + 1, d, Bn, Bs, cd, pc, ls, st, E, R, h, Q, hq => by
    unfold e_run at h
    split at h
    · rename_i p len ins a b c v e
      refine zgo_in (zcall_m xs d) ?_
      unfold zat
      rw [e]
      refine s_op (fun a' E' as R' h3 Q' hq' => ?_) (fun pc ls st E h2 => e_run_s f d Bn Bs cd pc ls st E R h2 Q hq) hq h
      split at h3
      · rename_i k12
        have := Nat.eq_of_beq_eq_true k12
        subst this
        split at h3
        · rename_i k4
          obtain ⟨d', rfl⟩ : ∃ d', d = d' + 4 := ⟨d - 4, by have := Nat.le_of_ble_eq_true k4; omega⟩
          unfold e_ix at h3
          split at h3
          · have e := Option.some.inj h3
            subst e
            exact c_charAt ‹_› ‹_› hq'
          · cases h3
        · cases h3
      · split at h3
        · cases h3
        · rename_i d'
          split at h3
          · rename_i ke
            show (match zent a' as with
              | true => _
              | false => False)
            rw [ke]
            exact e_run_s f d' _ _ _ _ _ _ E' R' h3 Q' hq'
          · cases h3
    · cases h
