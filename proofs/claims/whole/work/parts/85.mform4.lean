/-! the model reads a formula: the whole run -/
section MFORM4
variable {xs : List Int32} {d : Nat} {Q : zQ} {t : Bool} {IL : zIL} {B : Nat → Nat} {n : Nat}
theorem l_f181X {c k : Nat} {x : Int32} {w : Value} (h : ypY c k IL) (hc : c ≠ 0) (hc2 : c ≤ 10) (hQ : Q (zFx t, IL) none) : gX8_formula xs (d + 4) Q 181 [.ref 145, .int x, w] [] (zFx t, IL) :=
  sX8_formula_181 t x w IL (zdec (fun z => absurd z (by rw [h.1]; exact nI_ne hc (by omega))) (fun _ => sX8_formula_193 t x w IL hQ))
theorem l_f35X {c k : Nat} {x : Int32} {w : Value} (h : ypY c k IL) (hc : c ≠ 0) (hc2 : c ≤ 10) (hQ : Q (zFx t, IL) none) : gX8_formula xs (d + 4) Q 35 [.ref 145, .int x, w] [] (zFx t, IL) := by
  have h162 : gX8_formula xs (d + 4) Q 162 [.ref 145, .int x, w] [] (zFx t, IL) := sX8_formula_162 t x w IL (zdec (fun z => absurd z (by rw [h.1]; exact nI_ne hc (by omega))) (fun _ => l_f181X h hc hc2 hQ))
  exact sX8_formula_35 t x w IL (zdec (fun _ => h162) (fun _ => zdec (fun z => absurd z (by rw [h.1]; exact nI_ne hc (by omega))) (fun _ => h162)))
/-- what unit() leads to in formula()'s loop -/
theorem l_form (hn : n ≤ 1600) (hB : ∀ j, j < n → B j < 256) {IL0 : zIL} : ∀ (g f : Nat) (s : List Nat) (p : yps) (IL : zIL) (w : Value), f ≤ g → ypM B n s p IL → ypI n 0 s p → yfg IL0 IL → (ypsr B n f false s p).1 ≠ 9 → (∀ p' IL', ypsr B n f false s p = (0, [], p') → ypM B n [] p' IL' → yfg IL0 IL' → Q (zFx t, IL') none) → (∀ s' p' c IL', ypsr B n f false s p = (c, s', p') → c ≠ 0 → c ≤ 2 → ypY c p'.tk.s IL' → yfg IL0 IL' → Q (zFx t, IL') none) → gX8_formula xs (d + 4) Q 35 [.ref 145, .int 1, w] [] (zFx t, IL) := by
  intro g
  induction g with
  | zero =>
    intro f s p IL w hf _ _ _ h9
    have : f = 0 := by omega
    subst this
    exact absurd rfl h9
  | succ g ih =>
    intro f s p IL w hf hM hI fr h9 hok hbad
    cases f with
    | zero => exact absurd rfl h9
    | succ f =>
    have hk := hI.1.2.2.2.2.2
    have hg := hI.1.2
    have sr := ysrt_1 hk
    have k6 := hM.2.1.1
    have b0 := hI.2.2.2.2.1
    have b1 := hI.2.2.2.2.2
    have b2 := hI.2.2.2.1
    have b3 := hI.2.2.1
    have hls : s.length ≤ 40 := by omega
    have hlw : p.W.length + s.length ≤ 280 := by omega
    have hO' := ytkO_nt hB hI.1
    -- the loop ends
    have out : ¬ (p.tk.k = 41 ∧ yphb s = true) → ¬ (yop p.tk.k = true ∧ ¬ (ytg p.tk.k = 4 ∧ yhr s = true)) → ∀ x : Int32, gX8_formula xs (d + 4) Q 157 [.ref 145, .int 1, .int x] [] (zFx t, IL) := fun n1 n2 x => by
      have e0 : ypsr B n (f + 1) false s p = if yphb s = true then (yrf p.tk, s, p) else (0, [], yps.mk p.tk (yclo 0 s p.W).2 p.u) := by rw [ypsr, if_neg n1, if_neg n2]
      refine sX8_formula_157 t 1 x IL (sX8_formula_159 t 0 x IL (sX8_formula_35 t 0 _ IL (z0 (sX8_formula_162 t 0 _ IL (zdec (fun _ => m_hasBr (d := d + 3) hM.2.2.2.1 hI.2.1 (by omega) (kI (zbb (fun c => ?_) (fun c => ?_)))) (fun z => absurd hM.2.2.1 z))))))
      · rw [if_neg (by rw [c]; decide)] at e0
        have k0 : (yclo 0 s p.W).1 = [] := (yclo_0 s p.W).1 c
        refine sX8_formula_181 t 0 _ IL (zdec (fun _ => m_close (d := d + 2) (m := 0) rfl (by decide) hM.2.2.2.1 hM.2.2.2.2.1 hI.2.1 (by omega) (by omega) (fun I1 f1 k1 k2 => kV (sX8_formula_193 t 0 _ I1 ?_))) (fun z => absurd hM.2.2.1 z))
        rw [k0] at k1
        refine hok _ I1 e0 (ypM_x hM (fun c j z => f1.1 c j (by omega) (by omega) (by omega)) f1.2 k1 k2 ⟨by rw [f1.1 145 20 (by omega) (by decide) (by decide)]; exact hM.2.2.2.2.2.1, by rw [f1.1 145 22 (by omega) (by decide) (by decide)]; exact hM.2.2.2.2.2.2⟩) (yfg_tr fr (yfg_a f1))
      · rw [if_pos c] at e0
        refine m_wrong (d := d + 3) (c := 2) rfl hM.2.1 hk hM.2.2.1 (fun I1 f1 f2 y1 => kV (l_f181X y1 (yrf_2 p.tk).2 (by have := (yrf_2 p.tk).1; exact Nat.le_trans this (by decide)) ?_))
        exact hbad s p (yrf p.tk) I1 e0 (yrf_2 _).2 (yrf_2 _).1 y1 (yfg_tr fr (yfg_f f1 f2))
    -- a sign that is no bracket's end
    have h99 : ¬ (p.tk.k = 41 ∧ yphb s = true) → ∀ x : Int32, (yop p.tk.k = true → x = nI (ypmc p.tk.k)) → (¬ yop p.tk.k = true → x = 0) → gX8_formula xs (d + 4) Q 99 [.ref 145, .int 1, .int x] [] (zFx t, IL) := fun n1 x hx1 hx0 => by
      by_cases ho : yop p.tk.k = true
      · have kv : yvs p.tk.k := Or.inl ho
        have kc := yvs_c kv
        have og := yop_tg ho
        have ex := hx1 ho
        have h118 : ¬ (ytg p.tk.k = 4 ∧ yhr s = true) → gX8_formula xs (d + 4) Q 118 [.ref 145, .int 1, .int x] [] (zFx t, IL) := fun n2 => by
          have e0 : ypsr B n (f + 1) false s p = ypsr B n f true (p.tk.k :: (yclo (ytg p.tk.k) s p.W).1) (yps.mk (ynt B n p.tk) (yclo (ytg p.tk.k) s p.W).2 p.u) := by rw [ypsr, if_neg n1, if_pos ⟨ho, n2⟩]
          obtain ⟨r, a1, a2, a3, a4, a5⟩ := yclo_l (m := ytg p.tk.k) s p.W
          refine sX8_formula_118 t 1 x IL ?_
          rw [ex]
          refine m_tight (d := d + 3) kv og.2.1 (kI (m_close (d := d + 2) rfl og.2.2.2.2.2.2.2.2.2.2 hM.2.2.2.1 hM.2.2.2.2.1 hI.2.1 (by omega) (by omega) (fun I1 f1 k1 k2 => kV ?_)))
          rw [← ex]
          generalize hs' : (yclo (ytg p.tk.k) s p.W).1 = s' at a1 a3 a4 a5 k1 e0
          generalize hW' : (yclo (ytg p.tk.k) s p.W).2 = W' at a2 k2 e0
          have e19 := k1.1
          rw [e19]
          refine zix_n (by omega) (by decide) ?_
          rw [ycl (by omega)]
          have q1 : (zwi I1 152 s'.length x).1 145 19 = nI s'.length := by rw [zwi_ne (by decide)]; exact e19
          rw [q1, nI_1]
          have fw : ∀ c j, ¬ (c = 145 ∧ j = 19) → c ≠ 152 → (zwi (zwi I1 152 s'.length x) 145 19 (nI (s'.length + 1))).1 c j = I1.1 c j := fun c j h1 h2 => by
            by_cases e : c = 145
            · subst e
              rw [zwi_at, if_neg (by omega), zwi_ne h2]
            · rw [zwi_ne e, zwi_ne h2]
          have w19 : (zwi (zwi I1 152 s'.length x) 145 19 (nI (s'.length + 1))).1 145 19 = nI (s'.length + 1) := by rw [zwi_at, if_pos rfl]
          have w152 : ∀ j, (zwi (zwi I1 152 s'.length x) 145 19 (nI (s'.length + 1))).1 152 j = if j = s'.length then x else I1.1 152 j := fun j => by
            rw [zwi_ne (by decide), zwi_at]
          have w2 : (zwi (zwi I1 152 s'.length x) 145 19 (nI (s'.length + 1))).2 = I1.2 := rfl
          generalize zwi (zwi I1 152 s'.length x) 145 19 (nI (s'.length + 1)) = J at fw w19 w152 w2 ⊢
          have hd : ydp (p.tk.k :: s') = ydp s' := ydp_op og.2.1 og.2.2.1
          have J1 : yk1 (p.tk.k :: s') J := ⟨w19, ⟨by rw [w152, if_pos rfl]; exact ex, ystk_c s' (fun j hj => by rw [w152, if_neg (by omega)]) k1.2.1⟩, by rw [fw 145 23 (by omega) (by decide), hd]; exact k1.2.2⟩
          have M1 : ypM B n (p.tk.k :: s') (yps.mk p.tk W' p.u) J := ypM_x hM (fun c j z => by rw [fw c j (by omega) (by omega)]; exact f1.1 c j (by omega) (by omega) (by omega)) (w2.trans f1.2) J1 ⟨by rw [fw 145 17 (by omega) (by decide)]; exact k2.1, fun j hj => by rw [fw 148 j (by omega) (by decide), fw 149 j (by omega) (by decide)]; exact k2.2 j hj⟩ ⟨by rw [fw 145 20 (by omega) (by decide), f1.1 145 20 (by omega) (by decide) (by decide)]; exact hM.2.2.2.2.2.1, by rw [fw 145 22 (by omega) (by decide), f1.1 145 22 (by omega) (by decide) (by decide)]; exact hM.2.2.2.2.2.2⟩
          have fj : yfg I1 J := ⟨fun c j a _ _ e => fw c j (by omega) e, fun c j _ => by rw [w2]⟩
          refine m_tok (d := d + 2) (p := yps.mk p.tk W' p.u) hn hB M1 hI.1 (by show p.tk.k ≠ 0; exact fun q => by rw [q] at ho; revert ho; decide) (fun I3 f3 M3 => kV ?_)
          have fr3 : yfg IL0 I3 := yfg_tr fr (yfg_tr (yfg_a f1) (yfg_tr fj f3))
          rw [e0] at h9 hok hbad
          refine sX8_unit (d := d + 3) t I3 (l_unit (d := d) hn hB f (p.tk.k :: s') _ I3 _ M3 ⟨hO', fun y hy => ?_, b3, by rw [hd]; omega, ?_, ?_⟩ fr3 h9 (fun f' s2 p2 I4 hf' e4 M4 I4' fr4 => kV ?_) (fun s2 p2 c I4 e4 c0 c2 y4 fr4 => kV ?_))
          · rcases List.mem_cons.mp hy with q | q
            · rw [q]; exact kv
            · exact hI.2.1 y (a5 y q)
          · show W'.length + (s'.length + 1) ≤ 9 * p.u + 1 * (1 + ydp (p.tk.k :: s'))
            rw [hd]
            omega
          · show s'.length + 1 ≤ p.u + ydp (p.tk.k :: s') + 1
            rw [hd]
            omega
          · have e4' : ypsr B n f true (p.tk.k :: s') (yps.mk (ynt B n p.tk) W' p.u) = ypsr B n f' false s2 p2 := e4
            rw [e4'] at h9 hok hbad
            exact sX8_formula_159 t 1 x I4 (ih f' s2 p2 I4 _ (by omega) M4 I4' fr4 h9 hok hbad)
          · exact sX8_formula_159 t 1 x I4 (l_f35X y4 c0 (by omega) (hbad s2 p2 c I4 e4 c0 c2 y4 fr4))
        refine sX8_formula_99 t 1 x IL ?_
        rw [ex]
        refine zkn (c := 0) rfl rfl (by omega) (by decide) (fun z => absurd z kc.2.2.2.1) (fun _ => m_tight (d := d + 3) kv og.2.1 (kI (zkn (c := 4) rfl rfl (by omega) (by decide) (fun z => m_hasRel (d := d + 2) hM.2.2.2.1 hI.2.1 (by omega) (kI (zbb (fun c => ?_) (fun c => ?_)))) (fun z => ?_))))
        · have := h118 (fun q => by rw [c] at q; cases q.2)
          rw [ex] at this
          exact this
        · have := out n1 (fun q => q.2 ⟨z, c⟩) x
          rw [ex] at this
          exact this
        · have := h118 (fun q => z q.1)
          rw [ex] at this
          exact this
      · rw [hx0 ho]
        refine sX8_formula_99 t 1 0 IL (z0 ?_)
        exact out n1 (fun q => ho q.1) 0
    -- the head of the loop
    have s41 := sr.2.2.2.1 41 (by decide) (by decide)
    have go : ∀ x : Int32, (yop p.tk.k = true → x = nI (ypmc p.tk.k)) → (¬ yop p.tk.k = true → x = 0) → zif2 (decide (IL.1 145 6 = 41)) (zcall xs (d + 4) 182 (zFx t, IL) [.ref 145] (zkI (zFx t) fun IL2 y2 => zif2 (decide (y2 = 0)) (gX8_formula xs (d + 4) Q 99 [.ref 145, .int 1, .int x] [] (zFx t, IL2)) (zcall xs (d + 4) 173 (zFx t, IL2) [.ref 145, .int 0] (zkV (zFx t) fun IL3 => zcall xs (d + 4) 161 (zFx t, zwi (zwi IL3 145 19 (IL3.1 145 19 - 1)) 145 23 ((zwi IL3 145 19 (IL3.1 145 19 - 1)).1 145 23 - 1)) [.ref 145] (zkV (zFx t) fun IL4 => gX8_formula xs (d + 4) Q 159 [.ref 145, .int 1, .int x] [] (zFx t, IL4)))))) (gX8_formula xs (d + 4) Q 99 [.ref 145, .int 1, .int x] [] (zFx t, IL)) := fun x hx1 hx0 => by
      refine zkn (c := 41) k6 rfl (by omega) (by decide) (fun z => m_hasBr (d := d + 3) hM.2.2.2.1 hI.2.1 (by omega) (kI (zbb (fun c => h99 (fun q => by rw [c] at q; cases q.2) x hx1 hx0) (fun c => ?_)))) (fun z => h99 (fun q => z (s41.mpr q.1)) x hx1 hx0)
      have k41 := s41.mp z
      have e0 : ypsr B n (f + 1) false s p = ypsr B n f false (yclo 0 s p.W).1.tail (yps.mk (ynt B n p.tk) (yclo 0 s p.W).2 p.u) := by rw [ypsr, if_pos ⟨k41, c⟩]
      obtain ⟨r, a1, a2, a3, a4, a5⟩ := yclo_l (m := 0) s p.W
      obtain ⟨s', es⟩ := (yclo_0 s p.W).2 c
      refine m_close (d := d + 2) (m := 0) rfl (by decide) hM.2.2.2.1 hM.2.2.2.2.1 hI.2.1 (by omega) (by omega) (fun I1 f1 k1 k2 => kV ?_)
      rw [es] at a1 a3 a4 a5 k1 e0
      generalize (yclo 0 s p.W).2 = W' at a2 k2 e0
      have e19 : I1.1 145 19 = nI (s'.length + 1) := k1.1
      have hd : ydp (40 :: s') = ydp s' + 1 := by
        show (if (40 : Nat) = 40 ∨ (40 : Nat) = 111 then 1 else 0) + ydp s' = _
        rw [if_pos (Or.inl rfl), Nat.add_comm]
      have hls' : (40 :: s').length = s'.length + 1 := rfl
      rw [hls'] at a1
      rw [hd] at a3 a4
      have e23 : I1.1 145 23 = nI (ydp s' + 1) := by rw [k1.2.2, hd]
      rw [e19, nI_pred]
      have q1 : (zwi I1 145 19 (nI s'.length)).1 145 23 = nI (ydp s' + 1) := by rw [zwi_at, if_neg (by decide)]; exact e23
      rw [q1, nI_pred]
      have fw : ∀ c j, ¬ (c = 145 ∧ (j = 19 ∨ j = 23)) → (zwi (zwi I1 145 19 (nI s'.length)) 145 23 (nI (ydp s'))).1 c j = I1.1 c j := fun c j h1 => by
        by_cases e : c = 145
        · subst e
          rw [zwi_at, if_neg (by omega), zwi_at, if_neg (by omega)]
        · rw [zwi_ne e, zwi_ne e]
      have w19 : (zwi (zwi I1 145 19 (nI s'.length)) 145 23 (nI (ydp s'))).1 145 19 = nI s'.length := by rw [zwi_at, if_neg (by decide), zwi_at, if_pos rfl]
      have w23 : (zwi (zwi I1 145 19 (nI s'.length)) 145 23 (nI (ydp s'))).1 145 23 = nI (ydp s') := by rw [zwi_at, if_pos rfl]
      have w2 : (zwi (zwi I1 145 19 (nI s'.length)) 145 23 (nI (ydp s'))).2 = I1.2 := rfl
      generalize zwi (zwi I1 145 19 (nI s'.length)) 145 23 (nI (ydp s')) = J at fw w19 w23 w2 ⊢
      have M1 : ypM B n s' (yps.mk p.tk W' p.u) J := ypM_x hM (fun c j z => by rw [fw c j (by omega)]; exact f1.1 c j (by omega) (by omega) (by omega)) (w2.trans f1.2) ⟨w19, ystk_c s' (fun j _ => fw 152 j (by omega)) k1.2.1.2, w23⟩ ⟨by rw [fw 145 17 (by omega)]; exact k2.1, fun j hj => by rw [fw 148 j (by omega), fw 149 j (by omega)]; exact k2.2 j hj⟩ ⟨by rw [fw 145 20 (by omega), f1.1 145 20 (by omega) (by decide) (by decide)]; exact hM.2.2.2.2.2.1, by rw [fw 145 22 (by omega), f1.1 145 22 (by omega) (by decide) (by decide)]; exact hM.2.2.2.2.2.2⟩
      have fj : yfg I1 J := ⟨fun c j a _ _ _ => fw c j (by omega), fun c j _ => by rw [w2]⟩
      refine m_tok (d := d + 2) (p := yps.mk p.tk W' p.u) hn hB M1 hI.1 (by show p.tk.k ≠ 0; omega) (fun I3 f3 M3 => kV ?_)
      have fr3 : yfg IL0 I3 := yfg_tr fr (yfg_tr (yfg_a f1) (yfg_tr fj f3))
      rw [e0] at h9 hok hbad
      refine sX8_formula_159 t 1 x I3 (ih f s' _ I3 _ (by omega) M3 ⟨hO', fun y hy => hI.2.1 y (a5 y (List.mem_cons_of_mem _ hy)), b3, by omega, ?_, ?_⟩ fr3 h9 hok hbad)
      · show W'.length + s'.length ≤ 9 * p.u + 0 * (1 + ydp s')
        omega
      · show s'.length ≤ p.u + ydp s' + 0
        omega
    exact sX8_formula_35 t 1 w IL (z1 (zdec (fun _ => m_sign (d := d + 2) hM.2.1 hg (fun o => kI (go _ (fun _ => rfl) (fun z => absurd o z))) (fun o => kI (go 0 (fun z => absurd z o) (fun _ => rfl)))) (fun z => absurd hM.2.2.1 z)))
/-- the whole formula, from its word on -/
theorem m_formula {a : ytkT} (hn : n ≤ 1600) (hB : ∀ j, j < n → B j < 256) (ht : ymt n B IL) (h : ytM a IL) (hO : ytkO n a) (hk : a.k ≠ 0) (h2 : IL.1 145 2 = 0) (h20 : IL.1 145 20 = 0)
    (hok : ∀ IL', (yEi B n (yOr B n 7) (yps.mk (ynt B n a) [] 0)).1 = 0 → (∀ c j, ¬ (c = 145 ∧ (j = 4 ∨ (6 ≤ j ∧ j ≤ 8) ∨ j = 2 ∨ j = 3 ∨ j = 17 ∨ j = 19 ∨ j = 20 ∨ (22 ≤ j ∧ j ≤ 24))) → c ≠ 148 → c ≠ 149 → c ≠ 152 → IL'.1 c j = IL.1 c j) → (∀ c j, ¬ (c = 145 ∧ j = 9) → IL'.2 c j = IL.2 c j) → ytM (yEi B n (yOr B n 7) (yps.mk (ynt B n a) [] 0)).2.tk IL' → IL'.1 145 2 = 0 → yk2 (yEi B n (yOr B n 7) (yps.mk (ynt B n a) [] 0)).2.W IL' → IL'.1 145 20 = nI (yEi B n (yOr B n 7) (yps.mk (ynt B n a) [] 0)).2.u → IL'.1 145 24 = 1 → Q (zFx t, IL') none)
    (hbad : ∀ IL', (yEi B n (yOr B n 7) (yps.mk (ynt B n a) [] 0)).1 ≠ 0 → (∀ c j, ¬ (c = 145 ∧ (j = 4 ∨ (6 ≤ j ∧ j ≤ 8) ∨ j = 2 ∨ j = 3 ∨ j = 17 ∨ j = 19 ∨ j = 20 ∨ (22 ≤ j ∧ j ≤ 24))) → c ≠ 148 → c ≠ 149 → c ≠ 152 → IL'.1 c j = IL.1 c j) → (∀ c j, ¬ (c = 145 ∧ j = 9) → IL'.2 c j = IL.2 c j) → ypY (yEi B n (yOr B n 7) (yps.mk (ynt B n a) [] 0)).1 (yEi B n (yOr B n 7) (yps.mk (ynt B n a) [] 0)).2.tk.s IL' → Q (zFx t, IL') none) : zcall xs (d + 5) 183 (zFx t, IL) [.ref 145] Q := by
  have hO' := ytkO_nt hB hO
  obtain ⟨T1, T2⟩ := ysr_T (B := B) hn (yps.mk (ynt B n a) [] 0) hO'.1
  have ok := yEi_ok hB (ynt B n a) hO'
  refine sX8_formula t IL (c_token (d := d + 2) hn hB ht hO.1.2.1 (h.2.2.1 hk) h.2.2.2.2.2 (fun I1 f1 t1 => kV ?_))
  have t1' : ytM (ynt B n a) I1 := t1
  have g20 : I1.1 145 20 = 0 := by rw [f1.1 145 20 (by omega)]; exact h20
  have g2 : I1.1 145 2 = 0 := by rw [f1.1 145 2 (by omega)]; exact h2
  have g5 := ymt_fr ht f1
  have fw : ∀ c j, ¬ (c = 145 ∧ (j = 24 ∨ j = 17 ∨ j = 19 ∨ j = 23 ∨ j = 22)) → (zwi (zwi (zwi (zwi (zwi I1 145 24 1) 145 17 0) 145 19 0) 145 23 0) 145 22 0).1 c j = I1.1 c j := fun c j z => by
    by_cases e : c = 145
    · subst e
      rw [zwi_at, if_neg (by omega), zwi_at, if_neg (by omega), zwi_at, if_neg (by omega), zwi_at, if_neg (by omega), zwi_at, if_neg (by omega)]
    · rw [zwi_ne e, zwi_ne e, zwi_ne e, zwi_ne e, zwi_ne e]
  have w24 : (zwi (zwi (zwi (zwi (zwi I1 145 24 1) 145 17 0) 145 19 0) 145 23 0) 145 22 0).1 145 24 = 1 := by rw [zwi_at, if_neg (by decide), zwi_at, if_neg (by decide), zwi_at, if_neg (by decide), zwi_at, if_neg (by decide), zwi_at, if_pos rfl]
  have w17 : (zwi (zwi (zwi (zwi (zwi I1 145 24 1) 145 17 0) 145 19 0) 145 23 0) 145 22 0).1 145 17 = 0 := by rw [zwi_at, if_neg (by decide), zwi_at, if_neg (by decide), zwi_at, if_neg (by decide), zwi_at, if_pos rfl]
  have w19 : (zwi (zwi (zwi (zwi (zwi I1 145 24 1) 145 17 0) 145 19 0) 145 23 0) 145 22 0).1 145 19 = 0 := by rw [zwi_at, if_neg (by decide), zwi_at, if_neg (by decide), zwi_at, if_pos rfl]
  have w23 : (zwi (zwi (zwi (zwi (zwi I1 145 24 1) 145 17 0) 145 19 0) 145 23 0) 145 22 0).1 145 23 = 0 := by rw [zwi_at, if_neg (by decide), zwi_at, if_pos rfl]
  have w22 : (zwi (zwi (zwi (zwi (zwi I1 145 24 1) 145 17 0) 145 19 0) 145 23 0) 145 22 0).1 145 22 = 0 := by rw [zwi_at, if_pos rfl]
  have w2 : (zwi (zwi (zwi (zwi (zwi I1 145 24 1) 145 17 0) 145 19 0) 145 23 0) 145 22 0).2 = I1.2 := rfl
  generalize zwi (zwi (zwi (zwi (zwi I1 145 24 1) 145 17 0) 145 19 0) 145 23 0) 145 22 0 = J at fw w24 w17 w19 w23 w22 w2 ⊢
  have MJ : ypM B n [] (yps.mk (ynt B n a) [] 0) J := ⟨⟨by rw [fw 145 5 (by omega)]; exact g5.1, fun j hj => by rw [fw 146 j (by omega)]; exact g5.2 j hj⟩, ⟨by rw [fw 145 6 (by omega)]; exact t1'.1, by rw [fw 145 7 (by omega)]; exact t1'.2.1, fun z => by rw [fw 145 4 (by omega)]; exact t1'.2.2.1 z, fun z => by rw [fw 145 8 (by omega)]; exact t1'.2.2.2.1 z, fun z => by rw [w2]; exact t1'.2.2.2.2.1 z, by rw [fw 145 3 (by omega)]; exact t1'.2.2.2.2.2⟩, by rw [fw 145 2 (by omega)]; exact g2, ⟨w19, trivial, w23⟩, ⟨w17, fun j hj => absurd hj (Nat.not_lt_zero j)⟩, by rw [fw 145 20 (by omega)]; exact g20, w22⟩
  have IJ : ypI n 1 [] (yps.mk (ynt B n a) [] 0) := ⟨hO', fun k hk => (by cases hk), (by show (0 : Nat) ≤ 30; decide), (by show (0 : Nat) ≤ 7; decide), (by show (0 : Nat) + 0 ≤ 9 * 0 + 1 * (1 + 0); decide), (by show (0 : Nat) ≤ 0 + 0 + 1; decide)⟩
  -- frames of the end
  have en : ∀ I5, yfg J I5 → (∀ c j, ¬ (c = 145 ∧ (j = 4 ∨ (6 ≤ j ∧ j ≤ 8) ∨ j = 2 ∨ j = 3 ∨ j = 17 ∨ j = 19 ∨ j = 20 ∨ (22 ≤ j ∧ j ≤ 24))) → c ≠ 148 → c ≠ 149 → c ≠ 152 → I5.1 c j = IL.1 c j) ∧ (∀ c j, ¬ (c = 145 ∧ j = 9) → I5.2 c j = IL.2 c j) := fun I5 f5 => ⟨fun c j z a1 a2 a3 => by rw [f5.1 c j (by omega) a1 a2 a3, fw c j (by omega)]; exact f1.1 c j (by omega), fun c j z => by rw [f5.2 c j z, w2]; exact f1.2 c j z⟩
  have run : ∀ f, (ypsr B n f true [] (yps.mk (ynt B n a) [] 0)).1 ≠ 9 → (∀ p' IL', ypsr B n f true [] (yps.mk (ynt B n a) [] 0) = (0, [], p') → ypM B n [] p' IL' → yfg J IL' → Q (zFx t, IL') none) → (∀ s' p' c IL', ypsr B n f true [] (yps.mk (ynt B n a) [] 0) = (c, s', p') → c ≠ 0 → c ≤ 2 → ypY c p'.tk.s IL' → yfg J IL' → Q (zFx t, IL') none) → zcall xs (d + 4) 180 (zFx t, J) [.ref 145] (zkV (zFx t) fun IL2 => gX8_formula xs (d + 4) Q 35 [.ref 145, .int 1, .retAddr 0] [] (zFx t, IL2)) := fun f h9 hok hbad => by
    refine sX8_unit (d := d + 3) t J (l_unit (d := d) hn hB f [] _ J _ MJ IJ yfg_rf h9 (fun f' s2 p2 I4 hf' e4 M4 I4' fr4 => kV ?_) (fun s2 p2 c I4 e4 c0 c2 y4 fr4 => kV ?_))
    · rw [e4] at h9 hok hbad
      exact l_form hn hB f' f' s2 p2 I4 _ (Nat.le_refl _) M4 I4' fr4 h9 hok hbad
    · exact l_f35X y4 c0 (by omega) (hbad s2 p2 c I4 e4 c0 c2 y4 fr4)
  generalize yEi B n (yOr B n 7) (yps.mk (ynt B n a) [] 0) = e at T1 T2 ok hok hbad
  by_cases h0 : e.1 = 0
  · obtain ⟨f, ef⟩ := T1 h0
    refine run f (by rw [ef]; show (0 : Nat) ≠ 9; decide) (fun p' I5 e5 M5 f5 => ?_) (fun s' p' c I5 e5 c0 => ?_)
    · rw [ef] at e5
      have ep : e.2 = p' := congrArg (fun z => z.2.2) e5
      rw [← ep] at M5
      exact hok I5 h0 (en I5 f5).1 (en I5 f5).2 M5.2.1 M5.2.2.1 M5.2.2.2.2.1 M5.2.2.2.2.2.1 (by rw [f5.1 145 24 (by omega) (by decide) (by decide) (by decide)]; exact w24)
    · rw [ef] at e5
      have : (0 : Nat) = c := congrArg (fun z => z.1) e5
      omega
  · obtain ⟨f, s', p', ef, et⟩ := T2 h0
    have l2 := ok.2.1
    refine run f (by rw [ef]; show e.1 ≠ 9; omega) (fun p2 I5 e5 => ?_) (fun s2 p2 c I5 e5 c0 c2 y5 f5 => ?_)
    · rw [ef] at e5
      exact absurd (congrArg (fun z => z.1) e5) h0
    · rw [ef] at e5
      have e1 : e.1 = c := congrArg (fun z => z.1) e5
      have e2 : p' = p2 := congrArg (fun z => z.2.2) e5
      rw [← e1, ← e2, et] at y5
      exact hbad I5 h0 (en I5 f5).1 (en I5 f5).2 y5
end MFORM4
