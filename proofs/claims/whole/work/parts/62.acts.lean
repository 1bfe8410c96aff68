/-! acts: the class's side -/
theorem y_rows : ∀ r, r < 40 → zshl.getD (30 + 2 * r) (.inr (9, 0)) = .inl 6 ∧ zshl.getD (30 + 2 * r + 1) (.inr (9, 0)) = .inr (0, 7) ∧ ((zrl false).getD (30 + 2 * r) []).getD 0 none = some (30 + 2 * r + 1) ∧ ((zrl true).getD (30 + 2 * r) []).getD 0 none = some (30 + 2 * r + 1) ∧ ((zrl false).getD 27 []).getD r none = some (30 + 2 * r) ∧ ((zrl true).getD 27 []).getD r none = some (30 + 2 * r) := by decide +kernel
theorem zSt_r (t : Bool) {r : Nat} (h : r < 40) : zSt t (30 + 2 * r) := by
  obtain ⟨h1, h2, h3, h4, _⟩ := y_rows r h
  cases t
  · exact ⟨fun _ => h1, fun _ => h3, fun _ => h2⟩
  · exact ⟨fun _ => h1, fun _ => h4, fun _ => h2⟩
theorem zR_r (t : Bool) {r : Nat} (h : r < 40) (IL : zIL) : zR (zFx t, IL) 27 r = some (30 + 2 * r) := by
  obtain ⟨_, _, _, _, h5, h6⟩ := y_rows r h
  cases t
  · exact h5
  · exact h6
theorem y_boxs : ∀ r, r < 3 → zshl.getD (139 + 2 * r) (.inr (9, 0)) = .inl 6 ∧ zshl.getD (139 + 2 * r + 1) (.inr (9, 0)) = .inr (0, 7) ∧ ((zrl false).getD (139 + 2 * r) []).getD 0 none = some (139 + 2 * r + 1) ∧ ((zrl true).getD (139 + 2 * r) []).getD 0 none = some (139 + 2 * r + 1) ∧ ((zrl false).getD 135 []).getD r none = some (139 + 2 * r) ∧ ((zrl true).getD 135 []).getD r none = some (139 + 2 * r) := by decide +kernel
theorem zSt_b (t : Bool) {r : Nat} (h : r < 3) : zSt t (139 + 2 * r) := by
  obtain ⟨h1, h2, h3, h4, _⟩ := y_boxs r h
  cases t
  · exact ⟨fun _ => h1, fun _ => h3, fun _ => h2⟩
  · exact ⟨fun _ => h1, fun _ => h4, fun _ => h2⟩
theorem zR_b (t : Bool) {r : Nat} (h : r < 3) (IL : zIL) : zR (zFx t, IL) 135 r = some (139 + 2 * r) := by
  obtain ⟨_, _, _, _, h5, h6⟩ := y_boxs r h
  cases t
  · exact h5
  · exact h6
theorem zSt_28 (t : Bool) : zSt t 28 := by cases t <;> exact ⟨fun _ => rfl, fun _ => rfl, fun _ => rfl⟩
theorem y_fmod : ∀ x, x < 80 → ¬ (nI x ^^^ 40) < 0 ∧ nI x - nI x / 40 * 40 = nI (x % 40) := by decide +kernel
theorem y_mod40 {o a b : Nat} (ha : a < 40) (hb : b < 40) (h : (o + a) % 40 = (o + b) % 40) : a = b := by omega
/-- the state behind an act that is kept -/
def yhk (X : yX) (a : Nat) : Nat → Int32 := if X.don < 40 then (if a = X.don then X.S else X.hi a) else (if a = 39 then X.S else X.hi (a + 1))
def ydk (X : yX) : Nat := if X.don < 40 then X.don + 1 else 40
def yW (X : yX) (S' : Nat → Int32) (don' und' : Nat) (hi' : Nat → Nat → Int32) : yX := yX.mk X.H S' X.len X.tp X.fau X.pla don' und' hi' X.lai X.lie X.cnt X.tim X.sof X.sno X.sis X.sto X.sun X.bxf X.bx
def yact (X : yX) : yX := yW X X.S (ydk X) 0 (yhk X)
section ACTS
variable {xs : List Int32} {d : Nat} {Q : zQ} {t : Bool} {IL A B : zIL} {X : yX}
theorem yC.gen (h : yC t X A) (f : ∀ c, c < 145 → ysc c = false → c ≠ 22 → c ≠ 23 → ¬ (26 ≤ c ∧ c < 110) → B.1 c = A.1 c) (f2 : B.2 5 = A.2 5) {S' : Nat → Int32} {don' und' : Nat} {hi' : Nat → Nat → Int32} (hS : yCS 22 S' B) (hd : B.1 26 0 = nI don') (hu : B.1 26 1 = nI und') (hh : ∃ o, o < 40 ∧ B.1 26 2 = nI o ∧ ∀ a, a < don' + und' → yCS (30 + 2 * ((o + a) % 40)) (hi' a) B) : yC t (yW X S' don' und' hi') B := by
  have g : ∀ c, c < 145 → ysc c = false → c ≠ 22 → c ≠ 23 → ¬ (26 ≤ c ∧ c < 110) → ∀ j, B.1 c j = A.1 c j := fun c h1 h2 h3 h4 h5 j => by rw [f c h1 h2 h3 h4 h5]
  refine yC.mk ?_ hS ?_ ?_ ?_ ?_ hd hu hh ?_ ?_ ?_ ?_ ?_ ?_ ?_ ?_ ?_ ?_ ?_ ?_ ?_ ?_
  · refine h.H.fr (fun i h8 h5 h7 => f _ (by have := zH_le t; omega) ?_ (by have := zH_le t; omega) (by have := zH_le t; omega) (by have := zH_le t; omega))
    cases t
    · have : zH false = 6 := rfl
      unfold ysc
      simp only [Bool.or_eq_false_iff, Bool.and_eq_false_iff, beq_eq_false_iff_ne, decide_eq_false_iff_not]
      omega
    · have : zH true = 14 := rfl
      unfold ysc
      simp only [Bool.or_eq_false_iff, Bool.and_eq_false_iff, beq_eq_false_iff_ne, decide_eq_false_iff_not]
      omega
  · rw [g 1 (by decide) rfl (by decide) (by decide) (by decide)]; exact h.len
  · intro j hj; rw [g 2 (by decide) rfl (by decide) (by decide) (by decide)]; exact h.tape j hj
  · rw [g 1 (by decide) rfl (by decide) (by decide) (by decide)]; exact h.fau
  · rw [g 1 (by decide) rfl (by decide) (by decide) (by decide)]; exact h.pla
  · rw [g 0 (by decide) rfl (by decide) (by decide) (by decide)]; exact h.lai
  · intro j hj; rw [g 136 (by decide) rfl (by decide) (by decide) (by decide)]; exact h.lie j hj
  · rw [g 128 (by decide) rfl (by decide) (by decide) (by decide)]; exact h.cnt
  · rw [g 128 (by decide) rfl (by decide) (by decide) (by decide)]; exact h.tim
  · rw [g 128 (by decide) rfl (by decide) (by decide) (by decide)]; exact h.ope
  · intro j hj; rw [g 129 (by decide) rfl (by decide) (by decide) (by decide)]; exact h.sof j hj
  · intro j hj; rw [g 130 (by decide) rfl (by decide) (by decide) (by decide)]; exact h.sno j hj
  · intro j hj; rw [g 131 (by decide) rfl (by decide) (by decide) (by decide)]; exact h.sis j hj
  · intro j hj; rw [g 132 (by decide) rfl (by decide) (by decide) (by decide)]; exact h.sto j hj
  · intro j hj; rw [g 133 (by decide) rfl (by decide) (by decide) (by decide)]; exact h.sun j hj
  · intro a v n hv hn; rw [g 134 (by decide) rfl (by decide) (by decide) (by decide)]; exact h.trk a v n hv hn
  · intro b hb; rw [g 0 (by decide) rfl (by decide) (by decide) (by decide)]; exact h.bxm b hb
  · intro b hb hx
    have q := ysc_b b hb
    exact (h.bx b hb hx).fr (f _ (by omega) q.1 (by omega) (by omega) (by omega)) (f _ (by omega) q.2 (by omega) (by omega) (by omega))
  · intro w hw; rw [f2]; exact h.cod w hw
theorem yC.wS (h : yC t X A) (f : zfr [22, 22 + 1, zH t + 5, zH t + 7] A B) {S' : Nat → Int32} (hS : yCS 22 S' B) : yC t (yW X S' X.don X.und X.hi) B := by
  have zl := zH_le t
  have ne : ∀ c, c ≠ 22 → c ≠ 23 → 22 ≤ c → B.1 c = A.1 c := fun c h1 h2 h3 => f.1 c (by
    simp only [List.mem_cons, List.not_mem_nil, or_false]
    omega)
  refine h.gen (fun c h1 h2 h3 h4 h5 => f.1 c (fun hc => ?_)) (by rw [f.2]) hS (by rw [ne 26 (by decide) (by decide) (by decide)]; exact h.don) (by rw [ne 26 (by decide) (by decide) (by decide)]; exact h.und) ?_
  · simp only [List.mem_cons, List.not_mem_nil, or_false] at hc
    cases t
    · have : zH false = 6 := rfl
      rw [this] at hc
      rcases hc with rfl | rfl | rfl | rfl
      · exact h3 rfl
      · exact h4 rfl
      · cases h2
      · cases h2
    · have : zH true = 14 := rfl
      rw [this] at hc
      rcases hc with rfl | rfl | rfl | rfl
      · exact h3 rfl
      · exact h4 rfl
      · cases h2
      · cases h2
  · obtain ⟨o, h1, h2, h3⟩ := h.hist
    refine ⟨o, h1, by rw [ne 26 (by decide) (by decide) (by decide)]; exact h2, fun a ha => ?_⟩
    exact (h3 a ha).fr (ne _ (by omega) (by omega) (by omega)) (ne _ (by omega) (by omega) (by omega))
theorem c_row {o a : Nat} (ho : o < 40) (ha : a < 40) (h : IL.1 26 2 = nI o) (hQ : Q (zFx t, IL) (some (.ref (30 + 2 * ((o + a) % 40))))) : zcall xs (d + 2) 39 (zFx t, IL) [.ref 26, .int (nI a)] Q := by
  refine sX3_row t _ IL ?_
  rw [h, nI_add]
  obtain ⟨m1, m2⟩ := y_fmod (o + a) (by omega)
  have hm : (o + a) % 40 < 40 := Nat.mod_lt _ (by decide)
  refine sJ9_floorMod_7cf53 (zFx t) _ _ IL ⟨by decide, zdec (fun z => absurd z m1) (fun _ => kI ?_)⟩
  rw [m2]
  refine zix_n hm (by decide) ?_
  rw [ycl (by omega), zR_r t hm]
  exact hQ
theorem c_keep (hI : yI X) (hC : yC t X IL) (hQ : ∀ IL', yC t (yact X) IL' → (∀ c, 145 ≤ c → IL'.1 c = IL.1 c) → IL'.2 = IL.2 → Q (zFx t, IL') none) : zcall xs (d + 3) 36 (zFx t, IL) [.ref 26, .ref 22] Q := by
  obtain ⟨o, ho, eo, hh⟩ := hC.hist
  have dn := hI.dn
  have ed : (zwi IL 26 1 0).1 26 0 = nI X.don := by rw [zwi_at, if_neg (by decide)]; exact hC.don
  have ms : ∀ (s : Nat), s ∈ [s, s + 1] := fun s => List.mem_cons_self
  refine sX3_keep t IL ?_
  rw [ed]
  -- the row that is written, and what stands behind it
  have body : ∀ (M : zIL) (o' e : Nat), o' < 40 → e < 40 → M.1 26 0 = nI e → M.1 26 1 = 0 → M.1 26 2 = nI o' → (∀ c, c ≠ 26 → M.1 c = IL.1 c) → M.2 = IL.2 → (∀ a, a < e → yCS (30 + 2 * ((o' + a) % 40)) (yhk X a) M) → yhk X e = X.S → ydk X = e + 1 → zcall xs (d + 2) 39 (zFx t, M) [.ref 26, .int (nI e)] (zkA (zFx t) fun IL1 q1 => zck (zS (zFx t, IL1) q1) 6 (zcall xs (d + 2) 80 (zFx t, IL1) [.ref q1, .ref 22] (zkV (zFx t) fun IL2 => Q (zFx t, zwi IL2 26 0 (IL2.1 26 0 + 1)) none))) := by
    intro M o' e ho' he m0 m1 m2 mc ml mh hS hd
    have hm : (o' + e) % 40 < 40 := Nat.mod_lt _ (by decide)
    refine c_row ho' he m2 (kA ?_)
    rw [(zSt_r t hm).1, zck_r]
    have sM : yCS 22 X.S M := hC.S.fr (mc 22 (by decide)) (mc 23 (by decide))
    refine c_copy (zSt_r t hm) (zSt_22 t) ⟨by omega, by omega, by omega⟩ sM (fun IL2 f2 s2 => kV ?_)
    have k26 : IL2.1 26 = M.1 26 := f2.1 26 (by simp only [List.mem_cons, List.not_mem_nil, or_false]; omega)
    have kc : ∀ c, c ≠ 26 → c ≠ 30 + 2 * ((o' + e) % 40) → c ≠ 30 + 2 * ((o' + e) % 40) + 1 → (zwi IL2 26 0 (IL2.1 26 0 + 1)).1 c = IL.1 c := fun c h1 h2 h3 => by
      rw [zwi_ne h1, f2.1 c (by simp only [List.mem_cons, List.not_mem_nil, or_false]; omega), mc c h1]
    refine hQ _ ?_ (fun c hc => kc c (by omega) (by omega) (by omega)) (by show IL2.2 = IL.2; rw [f2.2, ml])
    refine hC.gen (fun c h1 h2 h3 h4 h5 => kc c (by omega) (by omega) (by omega)) (by show IL2.2 5 = IL.2 5; rw [f2.2, ml]) ?_ ?_ ?_ ⟨o', ho', ?_, fun a ha => ?_⟩
    · exact hC.S.fr (kc 22 (by decide) (by omega) (by omega)) (kc 23 (by decide) (by omega) (by omega))
    · rw [zwi_at, if_pos rfl, k26, m0, nI_1, hd]
    · rw [zwi_at, if_neg (by decide), k26, m1]
      rfl
    · rw [zwi_at, if_neg (by decide), k26, m2]
    · by_cases q : a = e
      · subst q
        rw [hS]
        exact s2.fr (zwi_ne (by omega)) (zwi_ne (by omega))
      · have ne : (o' + a) % 40 ≠ (o' + e) % 40 := fun z => q (y_mod40 (by omega) he z)
        have := mh a (by omega)
        have f3 : ∀ c, c ≠ 30 + 2 * ((o' + e) % 40) → c ≠ 30 + 2 * ((o' + e) % 40) + 1 → c ≠ 26 → (zwi IL2 26 0 (IL2.1 26 0 + 1)).1 c = M.1 c := fun c h1 h2 h3 => by
          rw [zwi_ne h3, f2.1 c (by simp only [List.mem_cons, List.not_mem_nil, or_false]; omega)]
        exact this.fr (f3 _ (by omega) (by omega) (by omega)) (f3 _ (by omega) (by omega) (by omega))
  rcases Nat.lt_or_ge X.don 40 with h | h
  · refine zdec (fun _ => ?_) (fun z => absurd (nI_lt (b := 40) h (by omega)) z)
    refine body (zwi IL 26 1 0) o X.don ho h ed (by rw [zwi_at, if_pos rfl]) (by rw [zwi_at, if_neg (by decide)]; exact eo) (fun c hc => zwi_ne hc) rfl (fun a ha => ?_) ?_ ?_
    · have e1 : yhk X a = X.hi a := by unfold yhk; rw [if_pos h, if_neg (by omega)]
      rw [e1]
      exact (hh a (by omega)).fr (zwi_ne (by omega)) (zwi_ne (by omega))
    · unfold yhk; rw [if_pos h, if_pos rfl]
    · unfold ydk; rw [if_pos h]
  · refine zdec (fun z => absurd z (nI_nlt (b := 40) h (by omega))) (fun _ => ⟨by decide, ?_⟩)
    have d40 : X.don = 40 := by omega
    have e2 : (zwi IL 26 1 0).1 26 2 = nI o := by rw [zwi_at, if_neg (by decide)]; exact eo
    have e3 : nI o + 1 - (nI o + 1) / 40 * 40 = nI ((o + 1) % 40) := by rw [nI_1]; exact (y_fmod (o + 1) (by omega)).2
    rw [e2, e3]
    have e0 : (zwi (zwi (zwi IL 26 1 0) 26 2 (nI ((o + 1) % 40))) 26 0 39).1 26 0 = nI 39 := by rw [zwi_at, if_pos rfl]; rfl
    rw [e0]
    refine body _ ((o + 1) % 40) 39 (Nat.mod_lt _ (by decide)) (by decide) e0 ?_ ?_ (fun c hc => by rw [zwi_ne hc, zwi_ne hc, zwi_ne hc]) rfl (fun a ha => ?_) ?_ ?_
    · rw [zwi_at, if_neg (by decide), zwi_at, if_neg (by decide), zwi_at, if_pos rfl]
    · rw [zwi_at, if_neg (by decide), zwi_at, if_pos rfl]
    · have e1 : yhk X a = X.hi (a + 1) := by unfold yhk; rw [if_neg (by omega), if_neg (by omega)]
      have e4 : ((o + 1) % 40 + a) % 40 = (o + (a + 1)) % 40 := by omega
      rw [e1, e4]
      exact (hh (a + 1) (by omega)).fr (by rw [zwi_ne (by omega), zwi_ne (by omega), zwi_ne (by omega)]) (by rw [zwi_ne (by omega), zwi_ne (by omega), zwi_ne (by omega)])
    · unfold yhk; rw [if_neg (by omega), if_pos rfl]
    · unfold ydk; rw [if_neg (by omega)]
theorem c_exch {s2 : Nat} {S T : Nat → Int32} (hs : zSt t s2) (h30 : 30 ≤ s2) (hS : yCS 22 S IL) (hT : yCS s2 T IL) (hQ : ∀ IL', zfr [28, 29, 22, 23, s2, s2 + 1] IL IL' → yCS 22 T IL' → yCS s2 S IL' → Q (zFx t, IL') none) : zcall xs (d + 2) 40 (zFx t, IL) [.ref 26, .ref 22, .ref s2] Q := by
  refine sX3_exchange t s2 IL hs (c_copy (zSt_28 t) (zSt_22 t) ⟨by decide, by decide, by decide⟩ hS (fun IL1 f1 s1 => kV ?_))
  have n1 : ∀ c, c ≠ 28 → c ≠ 29 → IL1.1 c = IL.1 c := fun c h1 h2 => f1.1 c (by simp only [List.mem_cons, List.not_mem_nil, or_false]; omega)
  refine c_copy (zSt_22 t) hs ⟨by omega, by omega, by omega⟩ (hT.fr (n1 _ (by omega) (by omega)) (n1 _ (by omega) (by omega))) (fun IL2 f2 s2' => kV ?_)
  have n2 : ∀ c, c ≠ 22 → c ≠ 23 → IL2.1 c = IL1.1 c := fun c h1 h2 => f2.1 c (by simp only [List.mem_cons, List.not_mem_nil, or_false]; omega)
  refine c_copy hs (zSt_28 t) ⟨by omega, by omega, by omega⟩ (s1.fr (n2 28 (by decide) (by decide)) (n2 29 (by decide) (by decide))) (fun IL3 f3 s3' => kV ?_)
  have n3 : ∀ c, c ≠ s2 → c ≠ s2 + 1 → IL3.1 c = IL2.1 c := fun c h1 h2 => f3.1 c (by simp only [List.mem_cons, List.not_mem_nil, or_false]; omega)
  refine hQ IL3 ⟨fun c hc => ?_, by rw [f3.2, f2.2, f1.2]⟩ (s2'.fr (n3 22 (by omega) (by omega)) (n3 23 (by omega) (by omega))) s3'
  simp only [List.mem_cons, List.not_mem_nil, or_false] at hc
  rw [n3 c (by omega) (by omega), n2 c (by omega) (by omega), n1 c (by omega) (by omega)]
/-- back and on again -/
def yundo (X : yX) : yX := if X.don = 0 then X else yW X (X.hi (X.don - 1)) (X.don - 1) (X.und + 1) (fun a => if a = X.don - 1 then X.S else X.hi a)
def yredo (X : yX) : yX := if X.und = 0 then X else yW X (X.hi X.don) (X.don + 1) (X.und - 1) (fun a => if a = X.don then X.S else X.hi a)
theorem c_undo (hI : yI X) (hC : yC t X IL) (hQ : ∀ IL', yC t (yundo X) IL' → (∀ c, 145 ≤ c → IL'.1 c = IL.1 c) → IL'.2 = IL.2 → Q (zFx t, IL') (some (.int (if X.don = 0 then 0 else 1)))) : zcall xs (d + 4) 97 (zFx t, IL) [.ref 0] Q := by
  obtain ⟨o, ho, eo, hh⟩ := hC.hist
  have dn := hI.dn
  refine sX7_undo t IL (sX3_takeBack t IL ?_)
  rw [hC.don]
  rcases Nat.eq_zero_or_pos X.don with h | h
  · refine zdec (fun z => absurd z (by rw [h]; decide)) (fun _ => kI ?_)
    have := hQ IL (by unfold yundo; rw [if_pos h]; exact hC) (fun _ _ => rfl) rfl
    rw [if_pos h] at this
    exact this
  · obtain ⟨e, he⟩ : ∃ e, X.don = e + 1 := ⟨X.don - 1, by omega⟩
    refine zdec (fun _ => ?_) (fun z => absurd (nI_lt (a := 0) h (by omega)) z)
    have a1 : (zwi IL 26 0 (nI X.don - 1)).1 26 1 = nI X.und := by rw [zwi_at, if_neg (by decide)]; exact hC.und
    rw [a1, he, nI_pred, nI_1]
    have m0 : (zwi (zwi IL 26 0 (nI e)) 26 1 (nI (X.und + 1))).1 26 0 = nI e := by rw [zwi_at, if_neg (by decide), zwi_at, if_pos rfl]
    have m1 : (zwi (zwi IL 26 0 (nI e)) 26 1 (nI (X.und + 1))).1 26 1 = nI (X.und + 1) := by rw [zwi_at, if_pos rfl]
    have m2 : (zwi (zwi IL 26 0 (nI e)) 26 1 (nI (X.und + 1))).1 26 2 = nI o := by rw [zwi_at, if_neg (by decide), zwi_at, if_neg (by decide)]; exact eo
    have mc : ∀ c, c ≠ 26 → (zwi (zwi IL 26 0 (nI e)) 26 1 (nI (X.und + 1))).1 c = IL.1 c := fun c hc => by rw [zwi_ne hc, zwi_ne hc]
    rw [m0]
    have ml : (zwi (zwi IL 26 0 (nI e)) 26 1 (nI (X.und + 1))).2 = IL.2 := rfl
    generalize zwi (zwi IL 26 0 (nI e)) 26 1 (nI (X.und + 1)) = M at m0 m1 m2 mc ml ⊢
    have hm : (o + e) % 40 < 40 := Nat.mod_lt _ (by decide)
    refine c_row ho (by omega) m2 (kA ?_)
    refine c_exch (zSt_r t hm) (by omega) (hC.S.fr (mc 22 (by decide)) (mc 23 (by decide))) ((hh e (by omega)).fr (mc _ (by omega)) (mc _ (by omega))) (fun IL2 f2 s2 s3 => kV (kI ?_))
    have kc : ∀ c, c ≠ 26 → c ≠ 28 → c ≠ 29 → c ≠ 22 → c ≠ 23 → c ≠ 30 + 2 * ((o + e) % 40) → c ≠ 30 + 2 * ((o + e) % 40) + 1 → IL2.1 c = IL.1 c := fun c h0 h1 h2 h3 h4 h5 h6 => by
      rw [f2.1 c (by simp only [List.mem_cons, List.not_mem_nil, or_false]; omega), mc c h0]
    have k26 : IL2.1 26 = M.1 26 := f2.1 26 (by simp only [List.mem_cons, List.not_mem_nil, or_false]; omega)
    have hu : yC t (yundo X) IL2 := by
      unfold yundo
      rw [if_neg (by omega), he, show e + 1 - 1 = e by omega]
      refine hC.gen (fun c h1 h2 h3 h4 h5 => kc c (by omega) (by omega) (by omega) h3 h4 (by omega) (by omega)) (by rw [f2.2, ml]) s2 (by rw [k26, m0]) (by rw [k26, m1]) ⟨o, ho, by rw [k26, m2], fun a ha => ?_⟩
      by_cases q : a = e
      · subst q
        rw [if_pos rfl]
        exact s3
      · rw [if_neg q]
        have ne : (o + a) % 40 ≠ (o + e) % 40 := fun z => q (y_mod40 (by omega) (by omega) z)
        exact (hh a (by omega)).fr (kc _ (by omega) (by omega) (by omega) (by omega) (by omega) (by omega) (by omega)) (kc _ (by omega) (by omega) (by omega) (by omega) (by omega) (by omega) (by omega))
    have := hQ IL2 hu (fun c hc => kc c (by omega) (by omega) (by omega) (by omega) (by omega) (by omega) (by omega)) (by rw [f2.2, ml])
    rw [if_neg (by omega)] at this
    exact this
theorem c_redo (hI : yI X) (hC : yC t X IL) (hQ : ∀ IL', yC t (yredo X) IL' → (∀ c, 145 ≤ c → IL'.1 c = IL.1 c) → IL'.2 = IL.2 → Q (zFx t, IL') (some (.int (if X.und = 0 then 0 else 1)))) : zcall xs (d + 4) 98 (zFx t, IL) [.ref 0] Q := by
  obtain ⟨o, ho, eo, hh⟩ := hC.hist
  have dn := hI.dn
  refine sX7_redo t IL (sX3_doAgain t IL ?_)
  rw [hC.und, hC.don]
  rcases Nat.eq_zero_or_pos X.und with h | h
  · refine zdec (fun z => absurd z (by rw [h]; decide)) (fun _ => kI ?_)
    have := hQ IL (by unfold yredo; rw [if_pos h]; exact hC) (fun _ _ => rfl) rfl
    rw [if_pos h] at this
    exact this
  · obtain ⟨e, he⟩ : ∃ e, X.und = e + 1 := ⟨X.und - 1, by omega⟩
    refine zdec (fun _ => ?_) (fun z => absurd (nI_lt (a := 0) h (by omega)) z)
    have hm : (o + X.don) % 40 < 40 := Nat.mod_lt _ (by decide)
    refine c_row ho (by omega) eo (kA ?_)
    refine c_exch (zSt_r t hm) (by omega) hC.S (hh X.don (by omega)) (fun IL2 f2 s2 s3 => kV (kI ?_))
    have k26 : IL2.1 26 = IL.1 26 := f2.1 26 (by simp only [List.mem_cons, List.not_mem_nil, or_false]; omega)
    have a0 : IL2.1 26 0 + 1 = nI (X.don + 1) := by rw [k26, hC.don, nI_1]
    rw [a0]
    have a1 : (zwi IL2 26 0 (nI (X.don + 1))).1 26 1 - 1 = nI e := by rw [zwi_at, if_neg (by decide), k26, hC.und, he, nI_pred]
    rw [a1]
    have kc : ∀ c, c ≠ 26 → c ≠ 28 → c ≠ 29 → c ≠ 22 → c ≠ 23 → c ≠ 30 + 2 * ((o + X.don) % 40) → c ≠ 30 + 2 * ((o + X.don) % 40) + 1 → (zwi (zwi IL2 26 0 (nI (X.don + 1))) 26 1 (nI e)).1 c = IL.1 c := fun c h0 h1 h2 h3 h4 h5 h6 => by
      rw [zwi_ne h0, zwi_ne h0, f2.1 c (by simp only [List.mem_cons, List.not_mem_nil, or_false]; omega)]
    have hu : yC t (yredo X) (zwi (zwi IL2 26 0 (nI (X.don + 1))) 26 1 (nI e)) := by
      unfold yredo
      rw [if_neg (by omega), he, show e + 1 - 1 = e by omega]
      refine hC.gen (fun c h1 h2 h3 h4 h5 => kc c (by omega) (by omega) (by omega) h3 h4 (by omega) (by omega)) (by show IL2.2 5 = _; rw [f2.2]) (s2.fr (by rw [zwi_ne (by decide), zwi_ne (by decide)]) (by rw [zwi_ne (by decide), zwi_ne (by decide)])) (by rw [zwi_at, if_neg (by decide), zwi_at, if_pos rfl]) (by rw [zwi_at, if_pos rfl]) ⟨o, ho, by rw [zwi_at, if_neg (by decide), zwi_at, if_neg (by decide), k26]; exact eo, fun a ha => ?_⟩
      by_cases q : a = X.don
      · subst q
        rw [if_pos rfl]
        exact s3.fr (by rw [zwi_ne (by omega), zwi_ne (by omega)]) (by rw [zwi_ne (by omega), zwi_ne (by omega)])
      · rw [if_neg q]
        have ne : (o + a) % 40 ≠ (o + X.don) % 40 := fun z => q (y_mod40 (by omega) (by omega) z)
        exact (hh a (by omega)).fr (kc _ (by omega) (by omega) (by omega) (by omega) (by omega) (by omega) (by omega)) (kc _ (by omega) (by omega) (by omega) (by omega) (by omega) (by omega) (by omega))
    have := hQ _ hu (fun c hc => kc c (by omega) (by omega) (by omega) (by omega) (by omega) (by omega) (by omega)) (by show IL2.2 = _; rw [f2.2])
    rw [if_neg (by omega)] at this
    exact this
end ACTS
