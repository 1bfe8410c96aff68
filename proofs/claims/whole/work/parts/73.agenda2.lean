/-! agenda: the end of the class's side; what lies -/
def yLx (X : yX) (lai' : Nat) (lie' : Nat → Int32) : yX := yX.mk X.H X.S X.len X.tp X.fau X.pla X.don X.und X.hi lai' lie' X.cnt X.tim X.sof X.sno X.sis X.sto X.sun X.bxf X.bx
def yuS (S : Nat → Int32) : Nat := (S 8).toNatClampNeg
def ylS (H : yH) (S : Nat → Int32) : Nat := H.k - ypc (yuS S)
def yAg (H : yH) (S : Nat → Int32) (fa : Int32) : Nat × List Nat := yG H fa H.k (ylS H S) (yuS S) S 0 [] (0, [])
def x_agenda (X : yX) (fa : Int32) : yX := yLx X (ylS X.H X.S) (fun j => nI ((yAg X.H X.S fa).2.getD j 0))
def r_agenda (X : yX) (fa : Int32) : Int32 := nI (yAg X.H X.S fa).1 - 1
theorem yuS_e {H : yH} {S : Nat → Int32} (hH : yOK H) (hB : ySB H S) : yuS S < 2 ^ H.k ∧ S 8 = nI (yuS S) := by
  have k6 := hH.k6
  have p64 : 2 ^ H.k ≤ 64 := Nat.pow_le_pow_right (n := 2) (by decide) k6
  obtain ⟨r, h1, h2⟩ := y_small (x := S 8) (w := H.k) hB.read
  have : yuS S = r := by unfold yuS; rw [h2, ycl (by omega)]
  rw [this]
  exact ⟨h1, h2⟩
theorem yok_1 {H : yH} {S : Nat → Int32} (hH : yOK H) (hB : ySB H S) : ypc (yuS S) ≤ H.k ∧ (yLv H.k (ylS H S) (yuS S)).head? = some ((List.range H.k).filter (fun c => !(yuS S).testBit c)) ∧ (∀ s, s ∈ yLv H.k (ylS H S) (yuS S) → s.length = ylS H S ∧ ∀ c, c ∈ s → c < H.k) ∧ ych (ylS H S) (yLv H.k (ylS H S) (yuS S)) = true := by
  have h := y_okL H.k hH.k6 (yuS S) (yuS_e hH hB).1
  unfold yokL at h
  rw [Bool.and_eq_true_iff, Bool.and_eq_true_iff, Bool.and_eq_true_iff] at h
  obtain ⟨h1, h2, h3, h4⟩ := h
  refine ⟨of_decide_eq_true h1, of_decide_eq_true h2, fun s hs => ?_, h4⟩
  have := (List.all_eq_true.mp h3) s hs
  rw [Bool.and_eq_true_iff] at this
  exact ⟨of_decide_eq_true this.1, fun c hc => of_decide_eq_true ((List.all_eq_true.mp this.2) c hc)⟩
theorem yst1_pos {H : yH} {fa : Int32} {S : Nat → Int32} {ps : Nat} {pre : List Nat} : ∀ (L : List (List Nat)) (q : Nat × List Nat), 0 < q.1 → 0 < (L.foldl (yst1 H fa S ps pre) q).1
  | [], q, h => h
  | s :: L, q, h => by
    rw [List.foldl_cons]
    refine yst1_pos L _ ?_
    unfold yst1
    split
    · exact Nat.succ_pos _
    · exact h
theorem yAg_pos {H : yH} {S : Nat → Int32} {fa : Int32} (hH : yOK H) (hB : ySB H S) : 0 < (yAg H S fa).1 := by
  unfold yAg
  rw [yG_fold]
  have h := (yok_1 hH hB).2.1
  generalize yLv H.k (ylS H S) (yuS S) = L at h
  cases L with
  | nil => cases h
  | cons s L =>
    rw [List.foldl_cons]
    refine yst1_pos L _ ?_
    unfold yst1
    rw [if_pos (Nat.zero_le _)]
    exact Nat.succ_pos _
section AG2
variable {xs : List Int32} {d : Nat} {Q : zQ} {t : Bool} {IL A B : zIL} {X : yX} {fa : Int32}
theorem yC.lies (h : yC t X A) {lai' : Nat} {lie' : Nat → Int32} (f : ∀ c, c < 145 → ysc c = false → c ≠ 0 → c ≠ 136 → B.1 c = A.1 c) (f0 : ∀ j, j ≠ 11 → B.1 0 j = A.1 0 j) (f2 : B.2 5 = A.2 5) (hl : B.1 0 11 = nI lai') (hi : ∀ j, j < lai' → B.1 136 j = lie' j) : yC t (yLx X lai' lie') B := by
  have g : ∀ c, c < 145 → ysc c = false → c ≠ 0 → c ≠ 136 → ∀ j, B.1 c j = A.1 c j := fun c h1 h2 h3 h4 j => by rw [f c h1 h2 h3 h4]
  obtain ⟨o, o1, o2, o3⟩ := h.hist
  have zl := zH_le t
  have zg := zH_ge t
  refine yC.mk ?_ (h.S.fr (f 22 (by decide) rfl (by decide) (by decide)) (f 23 (by decide) rfl (by decide) (by decide))) ?_ ?_ ?_ ?_ ?_ ?_ ⟨o, o1, ?_, fun a ha => ?_⟩ hl hi ?_ ?_ ?_ ?_ ?_ ?_ ?_ ?_ ?_ ?_ (fun j hj hx => ?_) ?_
  · refine h.H.fr (fun i h8 h5 h7 => f _ (by omega) ?_ (by omega) (by omega))
    cases t
    · have : zH false = 6 := rfl
      unfold ysc
      simp only [Bool.or_eq_false_iff, Bool.and_eq_false_iff, beq_eq_false_iff_ne, decide_eq_false_iff_not]
      omega
    · have : zH true = 14 := rfl
      unfold ysc
      simp only [Bool.or_eq_false_iff, Bool.and_eq_false_iff, beq_eq_false_iff_ne, decide_eq_false_iff_not]
      omega
  · rw [g 1 (by decide) rfl (by decide) (by decide)]; exact h.len
  · intro j hj; rw [g 2 (by decide) rfl (by decide) (by decide)]; exact h.tape j hj
  · rw [g 1 (by decide) rfl (by decide) (by decide)]; exact h.fau
  · rw [g 1 (by decide) rfl (by decide) (by decide)]; exact h.pla
  · rw [g 26 (by decide) rfl (by decide) (by decide)]; exact h.don
  · rw [g 26 (by decide) rfl (by decide) (by decide)]; exact h.und
  · rw [g 26 (by decide) rfl (by decide) (by decide)]; exact o2
  · have hm : (o + a) % 40 < 40 := Nat.mod_lt _ (by decide)
    have q := ysc_s _ hm
    exact (o3 a ha).fr (f _ (by omega) q.1 (by omega) (by omega)) (f _ (by omega) q.2 (by omega) (by omega))
  · rw [g 128 (by decide) rfl (by decide) (by decide)]; exact h.cnt
  · rw [g 128 (by decide) rfl (by decide) (by decide)]; exact h.tim
  · rw [g 128 (by decide) rfl (by decide) (by decide)]; exact h.ope
  · intro j hj; rw [g 129 (by decide) rfl (by decide) (by decide)]; exact h.sof j hj
  · intro j hj; rw [g 130 (by decide) rfl (by decide) (by decide)]; exact h.sno j hj
  · intro j hj; rw [g 131 (by decide) rfl (by decide) (by decide)]; exact h.sis j hj
  · intro j hj; rw [g 132 (by decide) rfl (by decide) (by decide)]; exact h.sto j hj
  · intro j hj; rw [g 133 (by decide) rfl (by decide) (by decide)]; exact h.sun j hj
  · intro a v n hv hn; rw [g 134 (by decide) rfl (by decide) (by decide)]; exact h.trk a v n hv hn
  · intro b hb; rw [f0 9 (by decide)]; exact h.bxm b hb
  · have q := ysc_b j hj
    exact (h.bx j hj hx).fr (f _ (by omega) q.1 (by omega) (by omega)) (f _ (by omega) q.2 (by omega) (by omega))
  · intro w hw; rw [f2]; exact h.cod w hw
theorem yM.lies (h : yM X A) {lai' : Nat} {lie' : Nat → Int32} (f : ∀ c j, 145 ≤ c → yms c j = false → c ≠ 165 → ¬ (c = 145 ∧ j = 62) → B.1 c j = A.1 c j) (f27 : B.1 145 27 = -1) (hl : B.1 145 62 = nI lai') (hi : ∀ j, j < lai' → B.1 165 j = lie' j) : yM (yLx X lai' lie') B := by
  refine yM.mk (h.H.fr (fun c j z => ?_)) ?_ f27 ?_ ?_ ?_ ?_ ?_ ?_ ?_ hl hi ?_ ?_ ?_ ?_ ?_ ?_ ?_ ?_ ?_
  · unfold yMHs at z
    simp only [Bool.or_eq_true, Bool.and_eq_true, beq_iff_eq] at z
    refine f c j (by omega) ?_ (by omega) (by omega)
    unfold yms
    simp only [Bool.or_eq_false_iff, Bool.and_eq_false_iff, beq_eq_false_iff_ne]
    omega
  · intro j hj; rw [f 161 j (by decide) rfl (by decide) (by omega)]; exact h.S j hj
  · rw [f 145 1 (by decide) rfl (by decide) (by decide)]; exact h.len
  · intro j hj; rw [f 146 j (by decide) rfl (by decide) (by omega)]; exact h.tape j hj
  · rw [f 145 2 (by decide) rfl (by decide) (by decide)]; exact h.fau
  · rw [f 145 3 (by decide) rfl (by decide) (by decide)]; exact h.pla
  · rw [f 145 57 (by decide) rfl (by decide) (by decide)]; exact h.don
  · rw [f 145 58 (by decide) rfl (by decide) (by decide)]; exact h.und
  · intro a j ha hj; rw [f 163 _ (by decide) rfl (by decide) (by omega)]; exact h.hist a j ha hj
  · rw [f 145 71 (by decide) rfl (by decide) (by decide)]; exact h.cnt
  · rw [f 145 72 (by decide) rfl (by decide) (by decide)]; exact h.tim
  · intro j hj; rw [f 169 j (by decide) rfl (by decide) (by omega)]; exact h.sof j hj
  · intro j hj; rw [f 170 j (by decide) rfl (by decide) (by omega)]; exact h.sno j hj
  · intro j hj; rw [f 171 j (by decide) rfl (by decide) (by omega)]; exact h.sto j hj
  · intro j hj; rw [f 172 j (by decide) rfl (by decide) (by omega)]; exact h.sun j hj
  · intro j hj; rw [f 173 j (by decide) rfl (by decide) (by omega)]; exact h.sis j hj
  · intro b hb; rw [f 177 b (by decide) rfl (by decide) (by omega)]; exact h.bxm b hb
  · intro b j hb hx hj; rw [f 178 _ (by decide) rfl (by decide) (by omega)]; exact h.bx b j hb hx hj
theorem l_ag45 {l : Nat} {x1 : Int32} {b : List Nat} (hl : l ≤ 6) (h0 : A.1 0 11 = nI l) (h1 : ∀ j, j < l → A.1 111 j = nI (b.getD j 0)) (hQ : ∀ IL', zfr [136] A IL' → (∀ j, j < l → IL'.1 136 j = nI (b.getD j 0)) → Q (zFx t, IL') (some (.int (IL'.1 110 0)))) : ∀ (m i : Nat) (IL : zIL), i + m = l → zfr [136] A IL → (∀ j, j < i → IL.1 136 j = nI (b.getD j 0)) → gX7_agenda xs d Q 45 [.ref 0, .int x1, .int (nI i)] [] (zFx t, IL)
  | 0, i, IL, hi, fr, h => sX7_agenda_45 t _ _ IL (zd_f (by rw [fr.1 0 (by decide)]; exact h0) (by omega) (by omega) (hQ IL fr (fun j hj => h j (by omega))))
  | m + 1, i, IL, hi, fr, h => by
    refine sX7_agenda_45 t _ _ IL (zd_t (by rw [fr.1 0 (by decide)]; exact h0) (by omega) (by omega) (zix_n (by omega) (by omega) (zix_n (by omega) (by omega) ?_)))
    rw [ycl (by omega), nI_1, fr.1 111 (by decide), h1 i (by omega)]
    refine l_ag45 hl h0 h1 hQ m (i + 1) _ (by omega) (zfr_tr fr (zfr_wi (by decide))) (fun j hj => ?_)
    rw [zwi_at]
    by_cases e : j = i
    · rw [if_pos e, e]
    · rw [if_neg e]; exact h j (by omega)
theorem c_agenda (hI : yI X) (hC : yC t X IL) (hfa : fa = 0 ∨ fa = 1) (hQ : ∀ IL', yC t (x_agenda X fa) IL' → (∀ c, 145 ≤ c → IL'.1 c = IL.1 c) → IL'.2 = IL.2 → Q (zFx t, IL') (some (.int (r_agenda X fa)))) : zcall xs (d + 14) 103 (zFx t, IL) [.ref 0, .int fa] Q := by
  have k6 := hI.H.k6
  have zl := zH_le t
  have zg := zH_ge t
  obtain ⟨u1, u2⟩ := yuS_e hI.H hI.S
  have p64 : 2 ^ X.H.k ≤ 64 := Nat.pow_le_pow_right (n := 2) (by decide) k6
  have pk := (yok_1 hI.H hI.S).1
  have el : ypc (yuS X.S) + ylS X.H X.S = X.H.k := by unfold ylS; omega
  refine sX7_agenda t _ IL (sX0_seek t t _ IL (zro_i (zR_g t (r := 0) (by decide) _) (zck_s (zSt_g t (r := 0) (by decide)) ?_)))
  have hS0 : yCS 22 X.S (zwi IL 110 0 (-1)) := hC.S.fr (zwi_ne (by decide)) (zwi_ne (by decide))
  refine c_copy (zSt_g t (r := 0) (by decide)) (zSt_22 t) ⟨by decide, by decide, by decide⟩ hS0 (fun I1 f1 s1 => kV ?_)
  have k1 : ∀ c, c ≠ 110 → c ≠ 114 → c ≠ 115 → I1.1 c = IL.1 c := fun c h1 h2 h3 => by rw [f1.1 c (by simp only [List.mem_cons, List.not_mem_nil, or_false]; omega), zwi_ne h1]
  have hC1 : yCH t X.H I1 := hC.H.fr (fun i _ _ _ => k1 _ (by omega) (by omega) (by omega))
  have hm1 : ymb1 (ylS X.H X.S) (0, []) I1 := ⟨by rw [f1.1 110 (by decide), zwi_at, if_pos rfl]; rfl, by show 0 ≤ 7; omega, fun h => absurd h (Nat.lt_irrefl 0)⟩
  refine c_goOn (fa := fa) hI.H hfa (r := ylS X.H X.S) (by omega) (ylS X.H X.S) 0 (yuS X.S) X.S 0 [] (0, []) I1 _ _ (by omega) (by omega) u2 u1 el hC1 s1 hI.S rfl (fun j hj => absurd hj (Nat.not_lt_zero j)) hm1 (by omega) (fun I2 f2 m2 => kV (kV ?_))
  have k2 : ∀ c, c ≠ 110 → c ≠ 111 → c ≠ 112 → ¬ (114 ≤ c ∧ c ≤ 127) → c ≠ zH t + 5 → c ≠ zH t + 7 → I2.1 c = IL.1 c := fun c h1 h2 h3 h4 h5 h6 => by rw [f2.1 c h1 h2 h3 (by omega) h5 h6, k1 c h1 (by omega) (by omega)]
  have l2 : I2.2 = IL.2 := by rw [f2.2.2, f1.2]; rfl
  have e22 : I2.1 22 2 = X.S 8 := by rw [k2 22 (by decide) (by decide) (by decide) (by decide) (by omega) (by omega)]; exact hC.S.read
  have ecl : I2.1 (zH t) 4 = nI X.H.k := by rw [k2 (zH t) (by omega) (by omega) (by omega) (by omega) (by omega) (by omega)]; exact hC.H.cla
  refine c_bitCount (kI ?_)
  rw [e22, u2, y_pcb (by omega), ecl, pk_sub pk]
  have emin : ∀ r, r ≤ 6 → zmin (nI r) 6 = nI r := by decide
  refine c_min (kI ?_)
  rw [emin _ (by omega), show X.H.k - ypc (yuS X.S) = ylS X.H X.S from rfl]
  have hp := yAg_pos (fa := fa) hI.H hI.S
  refine l_ag45 (l := ylS X.H X.S) (b := (yAg X.H X.S fa).2) (by omega) (by rw [zwi_at, if_pos rfl]) (fun j hj => by rw [zwi_ne (by decide)]; exact m2.2.2 hp j hj) (fun I3 f3 h3 => ?_) (ylS X.H X.S) 0 _ (by omega) zfr_rf (fun j hj => absurd hj (Nat.not_lt_zero j))
  have e110 : I3.1 110 0 = r_agenda X fa := by rw [f3.1 110 (by decide), zwi_ne (by decide)]; exact m2.1
  rw [e110]
  have k3 : ∀ c, c ≠ 0 → c ≠ 136 → I3.1 c = I2.1 c := fun c h1 h2 => by rw [f3.1 c (by simp only [List.mem_cons, List.not_mem_nil, or_false]; exact h2), zwi_ne h1]
  refine hQ I3 (hC.lies (fun c h1 h2 h3 h4 => ?_) (fun j hj => ?_) ?_ ?_ (fun j hj => h3 j hj)) (fun c hc => ?_) (by rw [f3.2]; exact l2)
  · rw [k3 c h3 h4]
    have a1 : c ≠ 110 := fun q => by rw [q] at h2; cases h2
    have a2 : c ≠ 111 := fun q => by rw [q] at h2; cases h2
    have a3 : c ≠ 112 := fun q => by rw [q] at h2; cases h2
    have a4 : ¬ (114 ≤ c ∧ c ≤ 127) := fun q => by
      unfold ysc at h2
      simp only [Bool.or_eq_false_iff, Bool.and_eq_false_iff, beq_eq_false_iff_ne, decide_eq_false_iff_not] at h2
      omega
    have a5 : c ≠ zH t + 5 := fun q => by
      rw [q] at h2
      cases t <;> cases h2
    have a6 : c ≠ zH t + 7 := fun q => by
      rw [q] at h2
      cases t <;> cases h2
    exact k2 c a1 a2 a3 a4 a5 a6
  · rw [f3.1 0 (by decide), zwi_at, if_neg hj, k2 0 (by decide) (by decide) (by decide) (by decide) (by omega) (by omega)]
  · rw [f3.2]
    show I2.2 5 = _
    rw [l2]
  · rw [f3.1 0 (by decide), zwi_at, if_pos rfl]
  · rw [k3 c (by omega) (by omega), k2 c (by omega) (by omega) (by omega) (by omega) (by omega) (by omega)]
end AG2
