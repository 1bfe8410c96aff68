/-! the model reads a formula: units, signs, the whole -/
section MFORM2
variable {xs : List Int32} {d : Nat} {Q : zQ} {t : Bool} {IL : zIL} {B : Nat → Nat} {n : Nat}
theorem m_lw {a : ytkT} {w : Int64} {i : Nat} {P R : Prop} (hi : i < 18) (hw : w = y8 (ykw.getD i [])) (h : ytM a IL) (hg : ytkg a) (hk : a.k = 3 ∨ 100 ≤ a.k) (h1 : a.k = 100 + i → P) (h0 : a.k ≠ 100 + i → R) : zif2 (decide (lg_cmp (IL.2 145 9) w = 0)) P R := by
  have k8 := y8_kw hg hk hi
  refine zdec (fun z => h1 (k8.mp ?_)) (fun z => h0 (fun q => z ?_))
  · have := lg_0.mp z
    rw [h.2.2.2.2.1 hk, hw] at this
    exact this
  · refine lg_0.mpr ?_
    rw [h.2.2.2.2.1 hk, hw]
    exact k8.mpr q
theorem m_asked {a : ytkT} (h : ytM a IL) (hg : ytkg a) (h1 : yinp a.k = true → Q (zFx t, IL) (some (.int (nI (a.k - 112))))) (h0 : ¬ yinp a.k = true → Q (zFx t, IL) (some (.int (-1)))) : zcall xs (d + 1) 176 (zFx t, IL) [.ref 145] Q := by
  have s := ysrt_1 hg.2.2.2.2
  have r : ∀ i, i < 6 → a.k = 100 + (12 + i) → Q (zFx t, IL) (some (.int (nI i))) := fun i hi e => by
    have := h1 (decide_eq_true (by omega))
    rw [show a.k - 112 = i by omega] at this
    exact this
  refine sX8_asked t IL (zkn (c := 1) h.1 rfl (by omega) (by decide) (fun e => ?_) (fun e => h0 (fun q => e (s.1.mpr (Or.inr (by have : 112 ≤ a.k ∧ a.k ≤ 117 := of_decide_eq_true q; omega))))))
  have hk := s.1.mp e
  refine m_lw (i := 12) (by decide) (by decide +kernel) h hg hk (r 0 (by decide)) (fun n0 => m_lw (i := 13) (by decide) (by decide +kernel) h hg hk (r 1 (by decide)) (fun n1 => m_lw (i := 14) (by decide) (by decide +kernel) h hg hk (r 2 (by decide)) (fun n2 => m_lw (i := 15) (by decide) (by decide +kernel) h hg hk (r 3 (by decide)) (fun n3 => m_lw (i := 16) (by decide) (by decide +kernel) h hg hk (r 4 (by decide)) (fun n4 => m_lw (i := 17) (by decide) (by decide +kernel) h hg hk (r 5 (by decide)) (fun n5 => h0 (fun q => ?_)))))))
  have : 112 ≤ a.k ∧ a.k ≤ 117 := of_decide_eq_true q
  omega
theorem m_isFull {u : Nat} (h : yk3 u IL) (hu : u ≤ 30) (h1 : u = 30 → Q (zFx t, IL) (some (.int 1))) (h0 : u < 30 → Q (zFx t, IL) (some (.int 0))) : zcall xs (d + 1) 177 (zFx t, IL) [.ref 145] Q :=
  sX8_isFull t IL (zkn (c := 60) h.1 rfl (by omega) (by decide) (fun e => by omega) (fun _ => zkn (c := 30) h.2 rfl (by omega) (by decide) (fun e => h1 e) (fun e => h0 (by omega))))
theorem m_countUnit {u : Nat} (h : yk3 u IL) (hQ : ∀ IL', (∀ c j, ¬ (c = 145 ∧ (j = 20 ∨ j = 22)) → IL'.1 c j = IL.1 c j) → IL'.2 = IL.2 → yk3 (u + 1) IL' → Q (zFx t, IL') none) : zcall xs (d + 1) 178 (zFx t, IL) [.ref 145] Q := by
  refine sX8_countUnit t IL (hQ _ (fun c j z => ?_) rfl ⟨?_, ?_⟩)
  · by_cases e : c = 145
    · subst e
      rw [zwi_at, if_neg (by omega), zwi_at, if_neg (by omega)]
    · rw [zwi_ne e, zwi_ne e]
  · rw [zwi_at, if_neg (by decide), zwi_at, if_pos rfl, h.1, nI_1]
  · rw [zwi_at, if_pos rfl, zwi_at, if_neg (by decide), h.2, nI_1]
theorem m_sign {a : ytkT} (h : ytM a IL) (hg : ytkg a) (h1 : yop a.k = true → Q (zFx t, IL) (some (.int (nI (ypmc a.k))))) (h0 : ¬ yop a.k = true → Q (zFx t, IL) (some (.int 0))) : zcall xs (d + 2) 181 (zFx t, IL) [.ref 145] Q := by
  have s := ysrt_1 hg.2.2.2.2
  have sg : ∀ c, 4 ≤ c → c < 100 → ypmc c = c → yop c = true → ysrt a.k = c → Q (zFx t, IL) (some (.int (IL.1 145 6))) := fun c c1 c2 c3 c4 e => by
    have ek := (s.2.2.2.1 c c1 c2).mp e
    have := h1 (by rw [ek]; exact c4)
    rw [h.1, e]
    rw [ek, c3] at this
    exact this
  refine sX8_sign t IL (m_isWord (i := 10) (by decide) (by decide +kernel) h hg (fun e => kI (z1 ?_)) (fun n1 => kI (z0 (m_isWord (i := 9) (by decide) (by decide +kernel) h hg (fun e => kI (z1 ?_)) (fun n2 => kI (z0 ?_))))))
  · have := h1 (by rw [e]; decide)
    rw [e] at this
    exact this
  · have := h1 (by rw [e]; decide)
    rw [e] at this
    exact this
  · refine zkn (c := 60) h.1 rfl (by omega) (by decide) (sg 60 (by decide) (by decide) rfl rfl) (fun m1 => zkn (c := 62) h.1 rfl (by omega) (by decide) (sg 62 (by decide) (by decide) rfl rfl) (fun m2 => zkn (c := 61) h.1 rfl (by omega) (by decide) (sg 61 (by decide) (by decide) rfl rfl) (fun m3 => zkn (c := 43) h.1 rfl (by omega) (by decide) (sg 43 (by decide) (by decide) rfl rfl) (fun m4 => zkn (c := 45) h.1 rfl (by omega) (by decide) (sg 45 (by decide) (by decide) rfl rfl) (fun m5 => zkn (c := 42) h.1 rfl (by omega) (by decide) (sg 42 (by decide) (by decide) rfl rfl) (fun m6 => zkn (c := 47) h.1 rfl (by omega) (by decide) (sg 47 (by decide) (by decide) rfl rfl) (fun m7 => zkn (c := 37) h.1 rfl (by omega) (by decide) (sg 37 (by decide) (by decide) rfl rfl) (fun m8 => h0 (fun q => ?_)))))))))
    have : a.k = 109 ∨ a.k = 110 ∨ a.k = 60 ∨ a.k = 62 ∨ a.k = 61 ∨ a.k = 43 ∨ a.k = 45 ∨ a.k = 42 ∨ a.k = 47 ∨ a.k = 37 := of_decide_eq_true q
    have r := fun c c1 c2 => (s.2.2.2.1 c c1 c2).mpr
    rcases this with e | e | e | e | e | e | e | e | e | e
    · omega
    · omega
    · exact m1 (r 60 (by decide) (by decide) e)
    · exact m2 (r 62 (by decide) (by decide) e)
    · exact m3 (r 61 (by decide) (by decide) e)
    · exact m4 (r 43 (by decide) (by decide) e)
    · exact m5 (r 45 (by decide) (by decide) e)
    · exact m6 (r 42 (by decide) (by decide) e)
    · exact m7 (r 47 (by decide) (by decide) e)
    · exact m8 (r 37 (by decide) (by decide) e)
def yhf (f : Nat → Int32) : Nat → Bool
  | 0 => false
  | j + 1 => yhf f j || decide (f j = 20)
theorem yphb_f : ∀ (s : List Nat) {f : Nat → Int32}, ystk s f → (∀ k, k ∈ s → yvs k) → yphb s = yhf f s.length
  | [], _, _, _ => rfl
  | k :: s, f, h, hv => by
    have kc := yvs_c (hv k List.mem_cons_self)
    have ih := yphb_f s h.2 (fun x hx => hv x (List.mem_cons_of_mem _ hx))
    show (decide (k = 40) || yphb s) = (yhf f s.length || decide (f s.length = 20))
    rw [ih, h.1, Bool.or_comm]
    congr 1
    by_cases e : k = 40
    · rw [e]; decide
    · rw [decide_eq_false e, decide_eq_false]
      intro z
      exact e (kc.1.mp ((nI_eq (b := 20) (by omega) (by decide)).mp z))
theorem m_hasBr {s : List Nat} (h1 : yk1 s IL) (hv : ∀ k, k ∈ s → yvs k) (hl : s.length ≤ 100) (hQ : Q (zFx t, IL) (some (.int (if yphb s then 1 else 0)))) : zcall xs (d + 1) 182 (zFx t, IL) [.ref 145] Q := by
  refine sX8_hasBracket t IL ?_
  have main : ∀ (m j : Nat), j + m = s.length → gX8_hasBracket xs d Q 4 [.ref 145, .int (if yhf (IL.1 152) j then 1 else 0), .int (nI j)] [] (zFx t, IL) := by
    intro m
    induction m with
    | zero =>
      intro j hj
      refine sX8_hasBracket_4 t _ _ IL (zd_f h1.1 (by omega) (by omega) (zbi ?_))
      rw [yphb_f s h1.2.1 hv] at hQ
      rw [show j = s.length by omega]
      exact hQ
    | succ m ih =>
      intro j hj
      have nx := ih (j + 1) (by omega)
      refine sX8_hasBracket_4 t _ _ IL (zd_t h1.1 (by omega) (by omega) (zbb (fun e => zix_n (by omega) (by decide) ?_) (fun e => ?_)))
      · rw [ycl (by omega), nI_1]
        unfold yhf at nx
        rw [e, Bool.false_or] at nx
        refine zdec (fun z => ?_) (fun z => ?_)
        · rw [decide_eq_true z] at nx; exact nx
        · rw [decide_eq_false z] at nx; exact nx
      · rw [nI_1]
        unfold yhf at nx
        rw [e, Bool.true_or] at nx
        exact nx
  exact main s.length 0 (by omega)
theorem m_tok {p : yps} {s : List Nat} (hn : n ≤ 1600) (hB : ∀ j, j < n → B j < 256) (h : ypM B n s p IL) (hO : ytkO n p.tk) (hk : p.tk.k ≠ 0) (hQ : ∀ IL', yfg IL IL' → ypM B n s (yps.mk (ynt B n p.tk) p.W p.u) IL' → Q (zFx t, IL') none) : zcall xs (d + 2) 161 (zFx t, IL) [.ref 145] Q :=
  c_token hn hB h.1 hO.1.2.1 (h.2.1.2.2.1 hk) h.2.1.2.2.2.2.2 (fun IL' f ht => hQ IL' (yfg_q f) ⟨ymt_fr h.1 f, ht, by rw [f.1 145 2 (by omega)]; exact h.2.2.1, yk1_q h.2.2.2.1 f, yk2_q h.2.2.2.2.1 f, yk3_q h.2.2.2.2.2 f⟩)
/-- one more on the stack of signs -/
theorem m_openUp {p : yps} {s : List Nat} {k : Nat} {x : Int32} (hn : n ≤ 1600) (hB : ∀ j, j < n → B j < 256) (hx : x = nI (ypmc k)) (hk : k = 40 ∨ k = 111) (h : ypM B n s p IL) (hO : ytkO n p.tk) (hk0 : p.tk.k ≠ 0) (hl : s.length < 100) (hQ : ∀ IL', yfg IL IL' → ypM B n (k :: s) (yps.mk (ynt B n p.tk) p.W p.u) IL' → Q (zFx t, IL') none) : zcall xs (d + 3) 179 (zFx t, IL) [.ref 145, .int x] Q := by
  refine sX8_openUp t x IL ?_
  have e19 := h.2.2.2.1.1
  have e23 := h.2.2.2.1.2.2
  rw [e19]
  refine zix_n (by omega) (by decide) ?_
  rw [ycl (by omega)]
  have q1 : (zwi IL 152 s.length x).1 145 19 = nI s.length := by rw [zwi_ne (by decide)]; exact e19
  rw [q1, nI_1]
  have q2 : (zwi (zwi IL 152 s.length x) 145 19 (nI (s.length + 1))).1 145 23 = nI (ydp s) := by rw [zwi_at, if_neg (by decide), zwi_ne (by decide)]; exact e23
  rw [q2, nI_1]
  have hd : ydp (k :: s) = ydp s + 1 := by
    show (if k = 40 ∨ k = 111 then 1 else 0) + ydp s = _
    rw [if_pos hk, Nat.add_comm]
  have fr : ∀ c j, ¬ (c = 145 ∧ (j = 19 ∨ j = 23)) → c ≠ 152 → (zwi (zwi (zwi IL 152 s.length x) 145 19 (nI (s.length + 1))) 145 23 (nI (ydp s + 1))).1 c j = IL.1 c j := fun c j h1 h2 => by
    by_cases e : c = 145
    · subst e
      rw [zwi_at, if_neg (by omega), zwi_at, if_neg (by omega), zwi_ne h2]
    · rw [zwi_ne e, zwi_ne e, zwi_ne h2]
  have w19 : (zwi (zwi (zwi IL 152 s.length x) 145 19 (nI (s.length + 1))) 145 23 (nI (ydp s + 1))).1 145 19 = nI (s.length + 1) := by rw [zwi_at, if_neg (by decide), zwi_at, if_pos rfl]
  have w23 : (zwi (zwi (zwi IL 152 s.length x) 145 19 (nI (s.length + 1))) 145 23 (nI (ydp s + 1))).1 145 23 = nI (ydp s + 1) := by rw [zwi_at, if_pos rfl]
  have w152 : ∀ j, (zwi (zwi (zwi IL 152 s.length x) 145 19 (nI (s.length + 1))) 145 23 (nI (ydp s + 1))).1 152 j = if j = s.length then x else IL.1 152 j := fun j => by
    rw [zwi_ne (by decide), zwi_ne (by decide), zwi_at]
  have w2 : (zwi (zwi (zwi IL 152 s.length x) 145 19 (nI (s.length + 1))) 145 23 (nI (ydp s + 1))).2 = IL.2 := rfl
  generalize zwi (zwi (zwi IL 152 s.length x) 145 19 (nI (s.length + 1))) 145 23 (nI (ydp s + 1)) = J at fr w19 w23 w152 w2 ⊢
  have J1 : ypM B n (k :: s) p J := ⟨⟨by rw [fr 145 5 (by omega) (by decide)]; exact h.1.1, fun j hj => by rw [fr 146 j (by omega) (by decide)]; exact h.1.2 j hj⟩,
    ⟨by rw [fr 145 6 (by omega) (by decide)]; exact h.2.1.1, by rw [fr 145 7 (by omega) (by decide)]; exact h.2.1.2.1, fun z => by rw [fr 145 4 (by omega) (by decide)]; exact h.2.1.2.2.1 z, fun z => by rw [fr 145 8 (by omega) (by decide)]; exact h.2.1.2.2.2.1 z, fun z => by rw [w2]; exact h.2.1.2.2.2.2.1 z, by rw [fr 145 3 (by omega) (by decide)]; exact h.2.1.2.2.2.2.2⟩,
    by rw [fr 145 2 (by omega) (by decide)]; exact h.2.2.1,
    ⟨w19, ⟨by rw [w152, if_pos rfl]; exact hx, ystk_c s (fun j hj => by rw [w152, if_neg (by omega)]) h.2.2.2.1.2.1⟩, by rw [w23, hd]⟩,
    ⟨by rw [fr 145 17 (by omega) (by decide)]; exact h.2.2.2.2.1.1, fun j hj => by rw [fr 148 j (by omega) (by decide), fr 149 j (by omega) (by decide)]; exact h.2.2.2.2.1.2 j hj⟩,
    by rw [fr 145 20 (by omega) (by decide)]; exact h.2.2.2.2.2.1, by rw [fr 145 22 (by omega) (by decide)]; exact h.2.2.2.2.2.2⟩
  have f1 : yfg IL J := ⟨fun c j a _ _ e => fr c j (by omega) e, fun c j _ => by rw [w2]⟩
  exact zdec (fun _ => m_tok hn hB J1 hO hk0 (fun I2 f2 h2 => kV (hQ I2 (yfg_tr f1 f2) h2))) (fun z => absurd J1.2.2.1 z)
/-- behind a fault: one more on the stack, and no token -/
theorem m_openX {c p : Nat} {l : Nat} {x : Int32} (h : ypY c p IL) (hc : c ≠ 0) (hc2 : c ≤ 10) (hl : IL.1 145 19 = nI l) (hl2 : l < 160) (hQ : ∀ IL', yfg IL IL' → ypY c p IL' → Q (zFx t, IL') none) : zcall xs (d + 3) 179 (zFx t, IL) [.ref 145, .int x] Q := by
  refine sX8_openUp t x IL ?_
  rw [hl]
  refine zix_n hl2 (by decide) ?_
  have e2 : ∀ v w y, (zwi (zwi (zwi IL 152 (nI l).toNatClampNeg v) 145 19 w) 145 23 y).1 145 2 = nI c ∧ (zwi (zwi (zwi IL 152 (nI l).toNatClampNeg v) 145 19 w) 145 23 y).1 145 3 = nI p := fun v w y => by
    rw [zwi_at, if_neg (by decide), zwi_at, if_neg (by decide), zwi_at, if_neg (by decide), zwi_at, if_neg (by decide), zwi_ne (by decide)]
    exact h
  refine zdec (fun z => absurd z (by rw [(e2 _ _ _).1]; exact nI_ne hc (by omega))) (fun _ => hQ _ (yfg_tr (yfg_c (by omega)) (yfg_tr (yfg_w (by omega)) (yfg_w (by omega)))) (e2 _ _ _))
end MFORM2
