/-! the model reads a formula: its run follows the stack's way -/
theorem yclo_l {m : Nat} : ∀ (s : List Nat) (W : List Int32), ∃ r, s.length = (yclo m s W).1.length + r ∧ (yclo m s W).2.length = W.length + r ∧ ydp s ≤ ydp (yclo m s W).1 + r ∧ ydp (yclo m s W).1 ≤ ydp s ∧ (∀ k, k ∈ (yclo m s W).1 → k ∈ s)
  | [], W => ⟨0, rfl, rfl, Nat.le_refl _, Nat.le_refl _, fun _ h => h⟩
  | k :: s, W => by
    unfold yclo
    by_cases h : k ≠ 40 ∧ m ≤ ytg k
    · rw [if_pos h]
      obtain ⟨r, a1, a2, a3, a4, a5⟩ := yclo_l s (W ++ [-(nI k)])
      have b : ydp (k :: s) = (if k = 40 ∨ k = 111 then 1 else 0) + ydp s := rfl
      have b2 : (if k = 40 ∨ k = 111 then 1 else 0) ≤ 1 := by split <;> omega
      refine ⟨r + 1, ?_, ?_, by omega, by omega, fun x hx => List.mem_cons_of_mem _ (a5 x hx)⟩
      · rw [List.length_cons]; omega
      · rw [a2, List.length_append]; show W.length + 1 + r = _; omega
    · rw [if_neg h]
      exact ⟨0, rfl, rfl, Nat.le_refl _, Nat.le_refl _, fun _ h => h⟩
theorem yclo_0 : ∀ (s : List Nat) (W : List Int32), (yphb s = false → (yclo 0 s W).1 = []) ∧ (yphb s = true → ∃ s', (yclo 0 s W).1 = 40 :: s')
  | [], W => ⟨fun _ => rfl, fun h => by cases h⟩
  | k :: s, W => by
    have e : yphb (k :: s) = (decide (k = 40) || yphb s) := rfl
    unfold yclo
    by_cases h : k = 40
    · rw [if_neg (fun q => q.1 h)]
      subst h
      exact ⟨fun q => absurd q (by rw [e]; simp), fun _ => ⟨s, rfl⟩⟩
    · rw [if_pos ⟨h, Nat.zero_le _⟩, e, decide_eq_false h, Bool.false_or]
      exact yclo_0 s _
section MFORM3
variable {xs : List Int32} {d : Nat} {Q : zQ} {t : Bool} {IL : zIL} {B : Nat → Nat} {n : Nat}
theorem ypM_x {s s' : List Nat} {p : yps} {W : List Int32} {u : Nat} {A C : zIL} (h : ypM B n s p A) (f : ∀ c j, ((c = 145 ∧ (j = 2 ∨ j = 3 ∨ j = 4 ∨ j = 5 ∨ (6 ≤ j ∧ j ≤ 8))) ∨ c = 146) → C.1 c j = A.1 c j) (f2 : C.2 = A.2) (k1 : yk1 s' C) (k2 : yk2 W C) (k3 : yk3 u C) : ypM B n s' (yps.mk p.tk W u) C :=
  ⟨⟨by rw [f 145 5 (by omega)]; exact h.1.1, fun j hj => by rw [f 146 j (by omega)]; exact h.1.2 j hj⟩, ⟨by rw [f 145 6 (by omega)]; exact h.2.1.1, by rw [f 145 7 (by omega)]; exact h.2.1.2.1, fun z => by rw [f 145 4 (by omega)]; exact h.2.1.2.2.1 z, fun z => by rw [f 145 8 (by omega)]; exact h.2.1.2.2.2.1 z, fun z => by rw [f2]; exact h.2.1.2.2.2.2.1 z, by rw [f 145 3 (by omega)]; exact h.2.1.2.2.2.2.2⟩, by rw [f 145 2 (by omega)]; exact h.2.2.1, k1, k2, k3⟩
theorem yinp_y {k : Nat} (h : yinp k = true) : yst (-(nI k)) = 1 ∧ yar (-(nI k)) = nI (k - 112) := by
  have a : 112 ≤ k ∧ k ≤ 117 := of_decide_eq_true h
  have : k = 112 ∨ k = 113 ∨ k = 114 ∨ k = 115 ∨ k = 116 ∨ k = 117 := by omega
  rcases this with rfl | rfl | rfl | rfl | rfl | rfl <;> decide
theorem yfg_f {A C : zIL} (f : ∀ c j, ¬ (c = 145 ∧ (j = 2 ∨ j = 3)) → C.1 c j = A.1 c j) (f2 : C.2 = A.2) : yfg A C := ⟨fun c j a _ _ _ => f c j (by omega), fun c j _ => by rw [f2]⟩
/-- behind a fault unit() ends -/
theorem l_unitX {c k : Nat} {w : Value} {x : Int32} (h : ypY c k IL) (hc : c ≠ 0) (hc2 : c ≤ 10) (hQ : Q (zFx t, IL) none) : gX8_unit xs (d + 3) Q 2 [.ref 145, .int x, w] [] (zFx t, IL) := by
  have h101 : gX8_unit xs (d + 3) Q 101 [.ref 145, .int x, w] [] (zFx t, IL) := by
    refine sX8_unit_101 t x w IL (zdec (fun _ => hQ) (fun z => absurd ?_ z))
    rw [h.1]
    exact nI_lt (a := 0) (by omega) (by omega)
  exact sX8_unit_2 t x w IL (zdec (fun _ => h101) (fun _ => zdec (fun z => absurd z (by rw [h.1]; exact nI_ne hc (by omega))) (fun _ => h101)))
theorem l_unit (hn : n ≤ 1600) (hB : ∀ j, j < n → B j < 256) {IL0 : zIL} : ∀ (f : Nat) (s : List Nat) (p : yps) (IL : zIL) (w : Value), ypM B n s p IL → ypI n 1 s p → yfg IL0 IL → (ypsr B n f true s p).1 ≠ 9 → (∀ f' s' p' IL', f' < f → ypsr B n f true s p = ypsr B n f' false s' p' → ypM B n s' p' IL' → ypI n 0 s' p' → yfg IL0 IL' → Q (zFx t, IL') none) → (∀ s' p' c IL', ypsr B n f true s p = (c, s', p') → c ≠ 0 → c ≤ 2 → ypY c p'.tk.s IL' → yfg IL0 IL' → Q (zFx t, IL') none) → gX8_unit xs (d + 3) Q 2 [.ref 145, .int 1, w] [] (zFx t, IL)
  | 0, s, p, IL, w, _, _, _, h9, _, _ => absurd rfl h9
  | f + 1, s, p, IL, w, hM, hI, fr, h9, hok, hbad => by
    have hk := hI.1.2.2.2.2.2
    have hg := hI.1.2
    have sr := ysrt_1 hk
    have k6 := hM.2.1.1
    have hls : s.length ≤ 40 := by have := hI.2.2.2.2.2; have := hI.2.2.1; have := hI.2.2.2.1; omega
    have hO' := ytkO_nt hB hI.1
    -- neither not nor bracket
    have fin : ¬ (p.tk.k = 111 ∧ ypcn 4 s = true) → p.tk.k ≠ 40 → ∀ x, gX8_unit xs (d + 3) Q 101 [.ref 145, .int x, w] [] (zFx t, IL) := fun n1 n2 x => by
      have e0 : ypsr B n (f + 1) true s p = if (p.tk.k = 2 ∨ yinp p.tk.k = true) ∧ p.u < 30 then ypsr B n f false s (yps.mk (ynt B n p.tk) (p.W ++ [ystp p.tk]) (p.u + 1)) else (yrf p.tk, s, p) := by rw [ypsr, if_neg n1, if_neg n2]
      have refu : ¬ ((p.tk.k = 2 ∨ yinp p.tk.k = true) ∧ p.u < 30) → ∀ a : Int32, gX8_unit xs (d + 3) Q 133 [.ref 145, .int x, .int a] [] (zFx t, IL) := fun c a => by
        rw [if_neg c] at e0
        refine sX8_unit_133 t x a IL (m_wrong (d := d + 2) (c := 2) rfl hM.2.1 hk hM.2.2.1 (fun I3 f3 f4 y3 => kV (sX8_unit_138 t x a I3 (zdec (fun _ => hbad s p (yrf p.tk) I3 e0 (yrf_2 _).2 (yrf_2 _).1 y3 (yfg_tr fr (yfg_f f3 f4))) (fun z => absurd ?_ z)))))
        rw [y3.1]
        have := (yrf_2 p.tk).2
        have := (yrf_2 p.tk).1
        exact nI_lt (a := 0) (b := yrf p.tk) (by omega) (by omega)
      have emit : ∀ (a : Int32), (p.tk.k = 2 ∧ a = -1 ∨ yinp p.tk.k = true ∧ a = nI (p.tk.k - 112)) → gX8_unit xs (d + 3) Q 126 [.ref 145, .int x, .int a] [] (zFx t, IL) := fun a ha => by
        refine sX8_unit_126 t x a IL (m_isFull (d := d + 2) hM.2.2.2.2.2 hI.2.2.1 (fun u30 => kI (z1 (refu (by omega) a))) (fun ul => kI (z0 ?_)))
        have c : (p.tk.k = 2 ∨ yinp p.tk.k = true) ∧ p.u < 30 := ⟨ha.imp (fun q => q.1) (fun q => q.1), ul⟩
        rw [if_pos c] at e0
        refine sX8_unit_138 t x a IL (zdec (fun z => absurd z (by rw [hM.2.2.1]; decide)) (fun _ => m_countUnit (d := d + 2) hM.2.2.2.2.2 (fun I1 g1 g2 gk => kV ?_)))
        have k1 : yk1 s I1 := ⟨by rw [g1 145 19 (by omega)]; exact hM.2.2.2.1.1, ystk_c s (fun j _ => g1 152 j (by omega)) hM.2.2.2.1.2.1, by rw [g1 145 23 (by omega)]; exact hM.2.2.2.1.2.2⟩
        have k2 : yk2 p.W I1 := ⟨by rw [g1 145 17 (by omega)]; exact hM.2.2.2.2.1.1, fun j hj => by rw [g1 148 j (by omega), g1 149 j (by omega)]; exact hM.2.2.2.2.1.2 j hj⟩
        have M1 : ypM B n s (yps.mk p.tk p.W (p.u + 1)) I1 := ypM_x hM (fun c j z => g1 c j (by omega)) g2 k1 k2 gk
        have f1 : yfg IL I1 := ⟨fun c j a _ _ _ => g1 c j (by omega), fun c j _ => by rw [g2]⟩
        have lw : p.W.length < 320 := by have := hI.2.2.2.2.1; have := hI.2.2.1; have := hI.2.2.2.1; omega
        have k0 : p.tk.k ≠ 0 := by
          rcases c.1 with q | q
          · omega
          · have : 112 ≤ p.tk.k ∧ p.tk.k ≤ 117 := of_decide_eq_true q
            omega
        -- behind the step
        have done : ∀ (b c : Int32), b = yst (ystp p.tk) → c = yar (ystp p.tk) → zcall xs (d + 3) 171 (zFx t, I1) [.ref 145, .int b, .int c] (zkV (zFx t) fun IL2 => zcall xs (d + 3) 161 (zFx t, IL2) [.ref 145] (zkV (zFx t) fun IL3 => Q (zFx t, IL3) none)) := fun b c hb hc => by
          refine m_add (d := d + 2) (x := ystp p.tk) hb hc k2 lw (fun I2 h1 h2 hk2 => kV ?_)
          have M2 : ypM B n s (yps.mk p.tk (p.W ++ [ystp p.tk]) (p.u + 1)) I2 := ypM_x (p := yps.mk p.tk p.W (p.u + 1)) M1 (fun c j z => h1 c j (by omega) (by omega) (by omega)) h2 ⟨by rw [h1 145 19 (by omega) (by decide) (by decide)]; exact k1.1, ystk_c s (fun j _ => h1 152 j (by omega) (by decide) (by decide)) k1.2.1, by rw [h1 145 23 (by omega) (by decide) (by decide)]; exact k1.2.2⟩ hk2 ⟨by rw [h1 145 20 (by omega) (by decide) (by decide)]; exact gk.1, by rw [h1 145 22 (by omega) (by decide) (by decide)]; exact gk.2⟩
          have f2 : yfg I1 I2 := ⟨fun c j a b e _ => h1 c j (by omega) b e, fun c j _ => by rw [h2]⟩
          refine m_tok (d := d + 1) (p := yps.mk p.tk (p.W ++ [ystp p.tk]) (p.u + 1)) hn hB M2 hI.1 k0 (fun I3 f3 M3 => kV ?_)
          refine hok f s _ I3 (Nat.lt_succ_self f) e0 M3 ⟨hO', hI.2.1, ul, hI.2.2.2.1, ?_, ?_⟩ (yfg_tr fr (yfg_tr f1 (yfg_tr f2 f3)))
          · show (p.W ++ [ystp p.tk]).length + s.length ≤ 9 * (p.u + 1) + 0 * (1 + ydp s)
            rw [List.length_append]
            show p.W.length + 1 + s.length ≤ _
            have := hI.2.2.2.2.1
            have := hI.2.2.2.1
            omega
          · show s.length ≤ p.u + 1 + ydp s + 0
            have := hI.2.2.2.2.2
            omega
        rcases ha with ⟨q, e⟩ | ⟨q, e⟩
        · have es : ystp p.tk = nI p.tk.n := by unfold ystp; rw [if_pos q]
          have np : ¬ nI p.tk.n < 0 := nI_pos (by have := hg.1 q; omega)
          subst e
          refine zdec (fun _ => zdec (fun _ => ?_) (fun z => absurd (by decide) z)) (fun z => absurd (by decide) z)
          refine done 0 _ ?_ ?_
          · rw [es]; unfold yst; rw [if_neg np]
          · rw [es]; unfold yar; rw [if_neg np]
            exact M1.2.1.2.2.2.1 q
        · have hh : 112 ≤ p.tk.k ∧ p.tk.k ≤ 117 := of_decide_eq_true q
          have es : ystp p.tk = -(nI p.tk.k) := by unfold ystp; rw [if_neg (by omega)]
          have ny := yinp_y q
          have np : ¬ a < 0 := by rw [e]; exact nI_pos (by omega)
          refine zdec (fun z => absurd z np) (fun _ => zdec (fun z => absurd z np) (fun _ => done 1 a ?_ ?_))
          · rw [es]; exact ny.1.symm
          · rw [es, e]; exact ny.2.symm
      refine sX8_unit_101 t x w IL (zdec (fun z => absurd z (by rw [hM.2.2.1]; decide)) (fun _ => m_asked (d := d + 2) hM.2.1 hg (fun q => kI ?_) (fun q => kI ?_)))
      · have hh : 112 ≤ p.tk.k ∧ p.tk.k ≤ 117 := of_decide_eq_true q
        have np : ¬ nI (p.tk.k - 112) < 0 := nI_pos (by omega)
        have em := emit (nI (p.tk.k - 112)) (Or.inr ⟨q, rfl⟩)
        generalize nI (p.tk.k - 112) = a at np em ⊢
        exact zkn (c := 2) k6 rfl (by omega) (by decide) (fun z => absurd (sr.2.2.1.mp z) (by omega)) (fun _ => zdec (fun z => absurd z np) (fun _ => em))
      · refine zkn (c := 2) k6 rfl (by omega) (by decide) (fun z => emit _ (Or.inl ⟨sr.2.2.1.mp z, rfl⟩)) (fun z => zdec (fun _ => refu (fun c => c.1.elim (fun r => z (sr.2.2.1.mpr r)) q) _) (fun z => absurd (by decide) z))
    -- a bracket, or what follows
    have h53 : ¬ (p.tk.k = 111 ∧ ypcn 4 s = true) → gX8_unit xs (d + 3) Q 53 [.ref 145, .int 1, w] [] (zFx t, IL) := fun n1 => by
      have s40 := sr.2.2.2.1 40 (by decide) (by decide)
      refine sX8_unit_53 t 1 w IL (zkn (c := 40) k6 rfl (by omega) (by decide) (fun z => ?_) (fun z => ?_))
      · have k40 := s40.mp z
        have e0 : ypsr B n (f + 1) true s p = if p.u < 30 ∧ ydp s < 7 then ypsr B n f true (40 :: s) (yps.mk (ynt B n p.tk) p.W (p.u + 1)) else (2, s, p) := by rw [ypsr, if_neg n1, if_pos k40]
        have bad : ¬ (p.u < 30 ∧ ydp s < 7) → gX8_unit xs (d + 3) Q 78 [.ref 145, .int 1, w] [] (zFx t, IL) := fun c => by
          rw [if_neg c] at e0
          refine sX8_unit_78 t 1 w IL (m_wrong (d := d + 2) (c := 2) rfl hM.2.1 hk hM.2.2.1 (fun I3 f3 f4 y3 => kV ?_))
          rw [if_neg (by omega)] at y3
          refine sX8_unit_83 t 1 w I3 (m_countUnit (d := d + 2) (u := p.u) ⟨by rw [f3 145 20 (by omega)]; exact hM.2.2.2.2.2.1, by rw [f3 145 22 (by omega)]; exact hM.2.2.2.2.2.2⟩ (fun I4 g4 g5 _ => kV ?_))
          have y4 : ypY 2 p.tk.s I4 := ⟨by rw [g4 145 2 (by omega)]; exact y3.1, by rw [g4 145 3 (by omega)]; exact y3.2⟩
          have ff : yfg I3 I4 := ⟨fun c j a _ _ _ => g4 c j (by omega), fun c j _ => by rw [g5]⟩
          refine m_openX (d := d) (l := s.length) y4 (by decide) (by decide) (by rw [g4 145 19 (by omega), f3 145 19 (by omega)]; exact hM.2.2.2.1.1) (by omega) (fun I5 h5 y5 => kV (l_unitX y5 (by decide) (by decide) ?_))
          exact hbad s p 2 I5 e0 (by decide) (by decide) y5 (yfg_tr fr (yfg_tr (yfg_f f3 f4) (yfg_tr ff h5)))
        refine m_isFull (d := d + 2) hM.2.2.2.2.2 hI.2.2.1 (fun u30 => kI (z1 (bad (by omega)))) (fun ul => kI (z0 (zln (k := 6) rfl hM.2.2.2.1.2.2 (by decide) (by have := hI.2.2.2.1; omega) (fun c => bad (by omega)) (fun c => ?_))))
        have cc : p.u < 30 ∧ ydp s < 7 := ⟨ul, by omega⟩
        rw [if_pos cc] at e0
        refine sX8_unit_83 t 1 w IL (m_countUnit (d := d + 2) hM.2.2.2.2.2 (fun I1 g1 g2 gk => kV ?_))
        have k1 : yk1 s I1 := ⟨by rw [g1 145 19 (by omega)]; exact hM.2.2.2.1.1, ystk_c s (fun j _ => g1 152 j (by omega)) hM.2.2.2.1.2.1, by rw [g1 145 23 (by omega)]; exact hM.2.2.2.1.2.2⟩
        have k2 : yk2 p.W I1 := ⟨by rw [g1 145 17 (by omega)]; exact hM.2.2.2.2.1.1, fun j hj => by rw [g1 148 j (by omega), g1 149 j (by omega)]; exact hM.2.2.2.2.1.2 j hj⟩
        have M1 : ypM B n s (yps.mk p.tk p.W (p.u + 1)) I1 := ypM_x hM (fun c j z => g1 c j (by omega)) g2 k1 k2 gk
        have f1 : yfg IL I1 := ⟨fun c j a _ _ _ => g1 c j (by omega), fun c j _ => by rw [g2]⟩
        refine m_openUp (d := d) (p := yps.mk p.tk p.W (p.u + 1)) (k := 40) hn hB rfl (Or.inl rfl) M1 hI.1 (by show p.tk.k ≠ 0; omega) (by omega) (fun I2 f2 M2 => kV ?_)
        have hd : ydp (40 :: s) = ydp s + 1 := by
          show (if (40 : Nat) = 40 ∨ (40 : Nat) = 111 then 1 else 0) + ydp s = _
          rw [if_pos (Or.inl rfl), Nat.add_comm]
        rw [e0] at h9 hok hbad
        refine l_unit hn hB f (40 :: s) _ I2 w M2 ⟨hO', fun x hx => ?_, by show p.u + 1 ≤ 30; omega, by rw [hd]; omega, ?_, ?_⟩ (yfg_tr fr (yfg_tr f1 f2)) h9 (fun f' s' p' J hf => hok f' s' p' J (by omega)) hbad
        · rcases List.mem_cons.mp hx with q | q
          · exact Or.inr (Or.inl q)
          · exact hI.2.1 x q
        · show p.W.length + (s.length + 1) ≤ 9 * (p.u + 1) + 1 * (1 + ydp (40 :: s))
          rw [hd]
          have := hI.2.2.2.2.1
          omega
        · show s.length + 1 ≤ p.u + 1 + ydp (40 :: s) + 1
          rw [hd]
          have := hI.2.2.2.2.2
          omega
      · exact sX8_unit_2 t 0 w IL (z0 (fin n1 (fun q => z (s40.mpr q)) 0))
    refine sX8_unit_2 t 1 w IL (z1 (zdec (fun _ => m_isWord (i := 11) (d := d + 2) (by decide) (by decide +kernel) hM.2.1 hg (fun e => kI (z1 (m_mayNot (d := d + 1) hM.2.2.2.1 hI.2.1 (by omega) (kI (zbb (fun c => h53 (fun q => by rw [c] at q; cases q.2)) (fun c => ?_)))))) (fun e => kI (z0 (h53 (fun q => e q.1))))) (fun z => absurd hM.2.2.1 z)))
    have e0 : ypsr B n (f + 1) true s p = if ydp s < 7 then ypsr B n f true (111 :: s) (yps.mk (ynt B n p.tk) p.W p.u) else (2, s, p) := by rw [ypsr, if_pos ⟨e, c⟩]
    refine zln (k := 6) rfl hM.2.2.2.1.2.2 (by decide) (by have := hI.2.2.2.1; omega) (fun q => ?_) (fun q => ?_)
    · rw [if_neg (by omega)] at e0
      refine m_wrong (d := d + 2) (c := 2) rfl hM.2.1 hk hM.2.2.1 (fun I3 f3 f4 y3 => kV (sX8_unit_44 t 1 w I3 ?_))
      rw [if_neg (by omega)] at y3
      refine m_openX (d := d) (l := s.length) y3 (by decide) (by decide) (by rw [f3 145 19 (by omega)]; exact hM.2.2.2.1.1) (by omega) (fun I4 g4 y4 => kV (l_unitX y4 (by decide) (by decide) ?_))
      exact hbad s p 2 I4 e0 (by decide) (by decide) y4 (yfg_tr fr (yfg_tr (yfg_f f3 f4) g4))
    · rw [if_pos (show ydp s < 7 by omega)] at e0
      refine sX8_unit_44 t 1 w IL (m_openUp (d := d) (p := p) (k := 111) hn hB rfl (Or.inr rfl) hM hI.1 (by omega) (by omega) (fun I2 f2 M2 => kV ?_))
      have hd : ydp (111 :: s) = ydp s + 1 := by
        show (if (111 : Nat) = 40 ∨ (111 : Nat) = 111 then 1 else 0) + ydp s = _
        rw [if_pos (Or.inr rfl), Nat.add_comm]
      rw [e0] at h9 hok hbad
      refine l_unit hn hB f (111 :: s) _ I2 w M2 ⟨hO', fun x hx => ?_, hI.2.2.1, by rw [hd]; omega, ?_, ?_⟩ (yfg_tr fr f2) h9 (fun f' s' p' J hf => hok f' s' p' J (by omega)) hbad
      · rcases List.mem_cons.mp hx with q | q
        · exact Or.inr (Or.inr q)
        · exact hI.2.1 x q
      · show p.W.length + (s.length + 1) ≤ 9 * p.u + 1 * (1 + ydp (111 :: s))
        rw [hd]
        have := hI.2.2.2.2.1
        omega
      · show s.length + 1 ≤ p.u + ydp (111 :: s) + 1
        rw [hd]
        have := hI.2.2.2.2.2
        omega
end MFORM3
