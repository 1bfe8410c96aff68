/-! the model reads a formula: its parts -/
def ypmc (k : Nat) : Nat := if k = 109 then 124 else if k = 110 then 38 else if k = 111 then 21 else if k = 40 then 20 else k
def yvs (k : Nat) : Prop := yop k = true ∨ k = 40 ∨ k = 111
theorem yvs_c {k : Nat} (h : yvs k) : (ypmc k = 20 ↔ k = 40) ∧ (ypmc k = 21 ↔ k = 111) ∧ ypmc k ≤ 124 ∧ ypmc k ≠ 0 ∧ 1 ≤ ytg k ∧ ytg k ≤ 6 := by
  have : (k = 109 ∨ k = 110 ∨ k = 60 ∨ k = 62 ∨ k = 61 ∨ k = 43 ∨ k = 45 ∨ k = 42 ∨ k = 47 ∨ k = 37) ∨ k = 40 ∨ k = 111 := h.imp (fun q => of_decide_eq_true q) id
  rcases this with (rfl | rfl | rfl | rfl | rfl | rfl | rfl | rfl | rfl | rfl) | rfl | rfl <;> decide
def ystk : List Nat → (Nat → Int32) → Prop
  | [], _ => True
  | k :: s, f => f s.length = nI (ypmc k) ∧ ystk s f
theorem ystk_c : ∀ (s : List Nat) {f g : Nat → Int32}, (∀ j, j < s.length → g j = f j) → ystk s f → ystk s g
  | [], _, _, _, _ => trivial
  | k :: s, f, g, h, q => ⟨(h _ (Nat.lt_succ_self _)).trans q.1, ystk_c s (fun j hj => h j (Nat.lt_succ_of_lt hj)) q.2⟩
def yk1 (s : List Nat) (IL : zIL) : Prop := IL.1 145 19 = nI s.length ∧ ystk s (IL.1 152) ∧ IL.1 145 23 = nI (ydp s)
def yk2 (W : List Int32) (IL : zIL) : Prop := IL.1 145 17 = nI W.length ∧ ∀ j, j < W.length → IL.1 148 j = yst (W.getD j 0) ∧ IL.1 149 j = yar (W.getD j 0)
def yk3 (u : Nat) (IL : zIL) : Prop := IL.1 145 20 = nI u ∧ IL.1 145 22 = nI u
theorem yk1_q {s : List Nat} {A B : zIL} (h : yk1 s A) (f : yfq A B) : yk1 s B := ⟨by rw [f.1 _ _ (by omega)]; exact h.1, ystk_c s (fun j _ => f.1 152 j (by omega)) h.2.1, by rw [f.1 _ _ (by omega)]; exact h.2.2⟩
theorem yk2_q {W : List Int32} {A B : zIL} (h : yk2 W A) (f : yfq A B) : yk2 W B := ⟨by rw [f.1 _ _ (by omega)]; exact h.1, fun j hj => by rw [f.1 148 _ (by omega), f.1 149 _ (by omega)]; exact h.2 j hj⟩
theorem yk3_q {u : Nat} {A B : zIL} (h : yk3 u A) (f : yfq A B) : yk3 u B := ⟨by rw [f.1 _ _ (by omega)]; exact h.1, by rw [f.1 _ _ (by omega)]; exact h.2⟩
/-- what reading a formula may change -/
def yfg (A B : zIL) : Prop := (∀ c j, ¬ (c = 145 ∧ (j = 2 ∨ j = 3 ∨ j = 4 ∨ (6 ≤ j ∧ j ≤ 8) ∨ j = 17 ∨ j = 19 ∨ j = 20 ∨ j = 22 ∨ j = 23)) → c ≠ 148 → c ≠ 149 → c ≠ 152 → B.1 c j = A.1 c j) ∧ (∀ c j, ¬ (c = 145 ∧ j = 9) → B.2 c j = A.2 c j)
theorem yfg_rf {A : zIL} : yfg A A := ⟨fun _ _ _ _ _ _ => rfl, fun _ _ _ => rfl⟩
theorem yfg_tr {A B C : zIL} (h1 : yfg A B) (h2 : yfg B C) : yfg A C := ⟨fun c j a b e g => (h2.1 c j a b e g).trans (h1.1 c j a b e g), fun c j h => (h2.2 c j h).trans (h1.2 c j h)⟩
theorem yfg_q {A B : zIL} (h : yfq A B) : yfg A B := ⟨fun c j a _ _ _ => h.1 c j (by omega), h.2⟩
theorem yfg_w {A : zIL} {j : Nat} {v : Int32} (h : j = 2 ∨ j = 3 ∨ j = 4 ∨ (6 ≤ j ∧ j ≤ 8) ∨ j = 17 ∨ j = 19 ∨ j = 20 ∨ j = 22 ∨ j = 23) : yfg A (zwi A 145 j v) := ⟨fun c j' a _ _ _ => by
  by_cases e : c = 145
  · subst e
    rw [zwi_at, if_neg (fun q : j' = j => a ⟨rfl, by rw [q]; exact h⟩)]
  · rw [zwi_ne e], fun _ _ _ => rfl⟩
theorem yfg_c {A : zIL} {c j : Nat} {v : Int32} (h : c = 148 ∨ c = 149 ∨ c = 152) : yfg A (zwi A c j v) := ⟨fun c' j' _ b e g => by rw [zwi_ne (show c' ≠ c by omega)], fun _ _ _ => rfl⟩
/-- the whole state ahead of or behind a unit -/
def ypM (B : Nat → Nat) (n : Nat) (s : List Nat) (p : yps) (IL : zIL) : Prop := ymt n B IL ∧ ytM p.tk IL ∧ IL.1 145 2 = 0 ∧ yk1 s IL ∧ yk2 p.W IL ∧ yk3 p.u IL
def ypI (n : Nat) (U : Nat) (s : List Nat) (p : yps) : Prop := ytkO n p.tk ∧ (∀ k, k ∈ s → yvs k) ∧ p.u ≤ 30 ∧ ydp s ≤ 7 ∧ p.W.length + s.length ≤ 9 * p.u + U * (1 + ydp s) ∧ s.length ≤ p.u + ydp s + U
/-- a fault -/
def ypY (c s : Nat) (IL : zIL) : Prop := IL.1 145 2 = nI c ∧ IL.1 145 3 = nI s
theorem ydp_op {k : Nat} {s : List Nat} (h1 : k ≠ 40) (h2 : k ≠ 111) : ydp (k :: s) = ydp s := by
  show (if k = 40 ∨ k = 111 then 1 else 0) + ydp s = ydp s
  rw [if_neg (by omega), Nat.zero_add]
section MFORM
variable {xs : List Int32} {d : Nat} {Q : zQ} {t : Bool} {IL : zIL} {B : Nat → Nat} {n : Nat}
theorem m_wrong {a : ytkT} {x : Int32} {c : Nat} (hx : x = nI c) (h : ytM a IL) (hk : a.k ≤ 117) (h2 : IL.1 145 2 = 0) (hQ : ∀ IL', (∀ c j, ¬ (c = 145 ∧ (j = 2 ∨ j = 3)) → IL'.1 c j = IL.1 c j) → IL'.2 = IL.2 → ypY (if a.k = 0 then 1 else c) a.s IL' → Q (zFx t, IL') none) : zcall xs (d + 1) 162 (zFx t, IL) [.ref 145, .int x] Q := by
  have fr : ∀ v w, ∀ c j, ¬ (c = 145 ∧ (j = 2 ∨ j = 3)) → (zwi (zwi IL 145 2 v) 145 3 w).1 c j = IL.1 c j := fun v w c j z => by
    by_cases e : c = 145
    · subst e
      rw [zwi_at, if_neg (by omega), zwi_at, if_neg (by omega)]
    · rw [zwi_ne e, zwi_ne e]
  have hs : ∀ v, (zwi IL 145 2 v).1 145 7 = nI a.s := fun v => by rw [zwi_at, if_neg (by decide)]; exact h.2.1
  have k3 : (ysrt a.k = 3 ↔ a.k = 0) ∧ ysrt a.k ≤ 117 := by
    unfold ysrt
    split
    · omega
    · split
      · omega
      · split
        · omega
        · split <;> omega
  refine sX8_wrong t x IL (zdec (fun z => absurd z (by rw [h2]; decide)) (fun _ => zkn (c := 3) h.1 rfl (by omega) (by decide) (fun e => hQ _ (fr _ _) rfl ?_) (fun e => hQ _ (fr _ _) rfl ?_)))
  · rw [if_pos (k3.1.mp e)]
    exact ⟨by rw [zwi_at, if_neg (by decide), zwi_at, if_pos rfl]; rfl, by rw [zwi_at, if_pos rfl]; exact hs _⟩
  · rw [if_neg (fun q => e (k3.1.mpr q))]
    exact ⟨by rw [zwi_at, if_neg (by decide), zwi_at, if_pos rfl]; exact hx, by rw [zwi_at, if_pos rfl]; exact hs _⟩
theorem ysrt_1 {k : Nat} (hk : k ≤ 117) : (ysrt k = 1 ↔ (k = 3 ∨ 100 ≤ k)) ∧ ysrt k ≤ 117 ∧ (ysrt k = 2 ↔ k = 2) ∧ (∀ c, 4 ≤ c → c < 100 → (ysrt k = c ↔ k = c)) ∧ (ysrt k = 0 ↔ k = 1) := by
  unfold ysrt
  split
  · exact ⟨by omega, by omega, by omega, fun c _ _ => by omega, by omega⟩
  · split
    · exact ⟨by omega, by omega, by omega, fun c _ _ => by omega, by omega⟩
    · split
      · exact ⟨by omega, by omega, by omega, fun c _ _ => by omega, by omega⟩
      · split
        · exact ⟨by omega, by omega, by omega, fun c _ _ => by omega, by omega⟩
        · exact ⟨by omega, by omega, by omega, fun c _ _ => by omega, by omega⟩
theorem y8_kw {a : ytkT} (hg : ytkg a) (hw : a.k = 3 ∨ 100 ≤ a.k) {i : Nat} (hi : i < 18) : y8 a.w = y8 (ykw.getD i []) ↔ a.k = 100 + i := by
  have w1 := hg.2.1 hw
  have w2 : ywd1 (ykw.getD i []) := ⟨ykw_len i hi, fun x hx => ykw_in i hi x hx⟩
  refine ⟨fun e => ?_, fun e => ?_⟩
  · have := y8_inj w1 w2 e
    rcases hw with q | q
    · exact absurd this.symm (hg.2.2.2.1 q i hi)
    · have a1 := hg.2.2.1 q
      rw [a1] at this
      have := ykw_ne _ (by have := hg.2.2.2.2; omega) _ hi this
      omega
  · have a1 := hg.2.2.1 (by omega)
    rw [a1, e, show 100 + i - 100 = i by omega]
theorem lg_0 {a b : Int64} : lg_cmp a b = 0 ↔ a = b := lg_cmp_eq _ _
theorem m_isWord {a : ytkT} {w : Int64} {i : Nat} (hi : i < 18) (hw : w = y8 (ykw.getD i [])) (h : ytM a IL) (hg : ytkg a) (h1 : a.k = 100 + i → Q (zFx t, IL) (some (.int 1))) (h0 : a.k ≠ 100 + i → Q (zFx t, IL) (some (.int 0))) : zcall xs (d + 1) 163 (zFx t, IL) [.ref 145, .long w] Q := by
  have s := ysrt_1 hg.2.2.2.2
  refine sX8_isWord t w IL (zkn (c := 1) h.1 rfl (by omega) (by decide) (fun e => ?_) (fun e => h0 (fun q => e (s.1.mpr (by omega)))))
  have hk := s.1.mp e
  have k8 := y8_kw hg hk hi
  refine zdec (fun z => h1 (k8.mp ?_)) (fun z => h0 (fun q => z ?_))
  · have := lg_0.mp z
    rw [h.2.2.2.2.1 hk, hw] at this
    exact this
  · refine lg_0.mpr ?_
    rw [h.2.2.2.2.1 hk, hw]
    exact k8.mpr q
theorem m_tight {k : Nat} (hk : yvs k) (h40 : k ≠ 40) (h : Q (zFx t, IL) (some (.int (nI (ytg k))))) : zcall xs (d + 1) 172 (zFx t, IL) [.int (nI (ypmc k))] Q := by
  refine sX8_tight t _ IL ?_
  have : (k = 109 ∨ k = 110 ∨ k = 60 ∨ k = 62 ∨ k = 61 ∨ k = 43 ∨ k = 45 ∨ k = 42 ∨ k = 47 ∨ k = 37) ∨ k = 40 ∨ k = 111 := hk.imp (fun q => of_decide_eq_true q) id
  rcases this with (rfl | rfl | rfl | rfl | rfl | rfl | rfl | rfl | rfl | rfl) | rfl | rfl
  all_goals first | exact h | exact absurd rfl h40
/-- frame of a step more -/
def yfa (A B : zIL) : Prop := (∀ c j, ¬ (c = 145 ∧ (j = 17 ∨ j = 19 ∨ j = 23)) → c ≠ 148 → c ≠ 149 → B.1 c j = A.1 c j) ∧ B.2 = A.2
theorem yfa_rf {A : zIL} : yfa A A := ⟨fun _ _ _ _ _ => rfl, rfl⟩
theorem yfa_tr {A B C : zIL} (h1 : yfa A B) (h2 : yfa B C) : yfa A C := ⟨fun c j a b e => (h2.1 c j a b e).trans (h1.1 c j a b e), h2.2.trans h1.2⟩
theorem yfa_w {A : zIL} {j : Nat} {v : Int32} (h : j = 17 ∨ j = 19 ∨ j = 23) : yfa A (zwi A 145 j v) := ⟨fun c j' a _ _ => by
  by_cases e : c = 145
  · subst e
    rw [zwi_at, if_neg (fun q : j' = j => a ⟨rfl, by rw [q]; exact h⟩)]
  · rw [zwi_ne e], rfl⟩
theorem yfg_a {A B : zIL} (h : yfa A B) : yfg A B := ⟨fun c j a b e _ => h.1 c j (by omega) b e, fun c j _ => by rw [h.2]⟩
theorem m_add {x : Int32} {a b : Int32} {W : List Int32} (ha : a = yst x) (hb : b = yar x) (h : yk2 W IL) (hl : W.length < 320) (hQ : ∀ IL', (∀ c j, ¬ (c = 145 ∧ j = 17) → c ≠ 148 → c ≠ 149 → IL'.1 c j = IL.1 c j) → IL'.2 = IL.2 → yk2 (W ++ [x]) IL' → Q (zFx t, IL') none) : zcall xs (d + 1) 171 (zFx t, IL) [.ref 145, .int a, .int b] Q := by
  have h0 := h.1
  refine sX8_add t a b IL ?_
  rw [h0]
  refine zix_n hl (by decide) ?_
  rw [zwi_ne (by decide), h0, zwi_ne (by decide), zwi_ne (by decide), h0, nI_1]
  refine zix_n hl (by decide) ?_
  rw [ycl (by omega)]
  refine hQ _ (fun c j h1 h2 h3 => ?_) rfl ⟨?_, fun j hj => ?_⟩
  · by_cases e : c = 145
    · subst e
      rw [zwi_at, if_neg (by omega), zwi_ne (by decide), zwi_ne (by decide)]
    · rw [zwi_ne e, zwi_ne h3, zwi_ne h2]
  · rw [zwi_at, if_pos rfl, List.length_append]; rfl
  · have hj' : j < W.length + 1 := by rw [List.length_append] at hj; exact hj
    rw [zwi_ne (by decide), zwi_ne (by decide), zwi_at, zwi_ne (by decide), zwi_at]
    by_cases e : j = W.length
    · subst e
      rw [if_pos rfl, if_pos rfl, ygd_l]
      exact ⟨ha, hb⟩
    · rw [if_neg e, if_neg e, zwi_ne (by decide), ygd_a W x j (by omega)]
      exact h.2 j (by omega)
theorem yop_y {k : Nat} (h : yop k = true) : yst (-(nI k)) = 3 ∧ yar (-(nI k)) = nI (ypmc k) := by
  have : k = 109 ∨ k = 110 ∨ k = 60 ∨ k = 62 ∨ k = 61 ∨ k = 43 ∨ k = 45 ∨ k = 42 ∨ k = 47 ∨ k = 37 := of_decide_eq_true h
  rcases this with rfl | rfl | rfl | rfl | rfl | rfl | rfl | rfl | rfl | rfl <;> decide
theorem l_close {m : Nat} (hm : m ≤ 6) {IL0 : zIL} : ∀ (s : List Nat) (W : List Int32) (IL : zIL), yk1 s IL → yk2 W IL → (∀ k, k ∈ s → yvs k) → W.length + s.length ≤ 310 → s.length ≤ 100 → yfa IL0 IL → (∀ IL', yfa IL0 IL' → yk1 (yclo m s W).1 IL' → yk2 (yclo m s W).2 IL' → Q (zFx t, IL') none) → gX8_close xs (d + 1) Q 0 [.ref 145, .int (nI m)] [] (zFx t, IL)
  | [], W, IL, h1, h2, hv, hl, hl2, fr, hQ => by
    refine sX8_close_0 t _ IL ?_
    rw [h1.1]
    exact zd_f (i := 0) (n := 0) rfl (Nat.le_refl _) (by decide) (hQ IL fr h1 h2)
  | k :: s, W, IL, h1, h2, hv, hl, hl2, fr, hQ => by
    have hk := hv k List.mem_cons_self
    have kc := yvs_c hk
    have hl3 : s.length + 1 ≤ 100 := hl2
    have hl4 : W.length + (s.length + 1) ≤ 310 := hl
    have e19 : IL.1 145 19 = nI (s.length + 1) := h1.1
    have top : IL.1 152 s.length = nI (ypmc k) := h1.2.1.1
    refine sX8_close_0 t _ IL ?_
    rw [e19]
    refine zd_t (i := 0) (n := s.length + 1) rfl (by omega) (by omega) ?_
    rw [nI_pred]
    refine zix_n (by omega) (by decide) ?_
    rw [ycl (by omega), top]
    unfold yclo at hQ
    refine zkn (c := 20) rfl rfl (by omega) (by decide) (fun e => ?_) (fun e => ?_)
    · rw [if_neg (fun q => q.1 (kc.1.mp e))] at hQ
      exact hQ IL fr h1 h2
    · have n40 : k ≠ 40 := fun q => e (kc.1.mpr q)
      refine zix_n (by omega) (by decide) (m_tight hk n40 (kI (zln rfl rfl (by omega) (by omega) (fun z => ?_) (fun z => ?_))))
      · rw [if_neg (by omega)] at hQ
        exact hQ IL fr h1 h2
      · rw [if_pos ⟨n40, z⟩] at hQ
        have f1 : yfa IL0 (zwi IL 145 19 (nI s.length)) := yfa_tr fr (yfa_w (by omega))
        rw [e19, nI_pred]
        have w19 : (zwi IL 145 19 (nI s.length)).1 145 19 = nI s.length := by rw [zwi_at, if_pos rfl]
        have w152 : (zwi IL 145 19 (nI s.length)).1 152 = IL.1 152 := zwi_ne (by decide)
        rw [w19, w152, ycl (by omega), top]
        have k2' : yk2 W (zwi IL 145 19 (nI s.length)) := ⟨by rw [zwi_at, if_neg (by decide)]; exact h2.1, fun j hj => by rw [zwi_ne (by decide), zwi_ne (by decide)]; exact h2.2 j hj⟩
        have w23 : (zwi IL 145 19 (nI s.length)).1 145 23 = nI (ydp (k :: s)) := by rw [zwi_at, if_neg (by decide)]; exact h1.2.2
        generalize zwi IL 145 19 (nI s.length) = J at f1 w19 w152 k2' w23 ⊢
        refine zix_n (by omega) (by decide) (zkn (c := 21) rfl rfl (by omega) (by decide) (fun e2 => ?_) (fun e2 => ?_))
        · have e111 := kc.2.1.mp e2
          subst e111
          refine m_add (x := -(nI 111)) rfl rfl k2' (by omega) (fun J1 g1 g2 gk => kV ?_)
          have d1 : J1.1 145 23 - 1 = nI (ydp s) := by
            rw [g1 145 23 (by omega) (by decide) (by decide), w23]
            show nI (1 + ydp s) - 1 = _
            rw [Nat.add_comm, nI_pred]
          rw [d1]
          refine l_close hm s _ _ ⟨?_, ?_, ?_⟩ ⟨?_, ?_⟩ (fun x hx => hv x (List.mem_cons_of_mem _ hx)) (by rw [List.length_append]; show W.length + 1 + s.length ≤ 310; omega) (by omega) (yfa_tr f1 (yfa_tr ⟨fun c j a b e => g1 c j (by omega) b e, g2⟩ (yfa_w (by omega)))) hQ
          · rw [zwi_at, if_neg (by decide), g1 145 19 (by omega) (by decide) (by decide)]; exact w19
          · rw [zwi_ne (by decide)]
            exact ystk_c s (fun j _ => by rw [g1 152 j (by omega) (by decide) (by decide), w152]) h1.2.1.2
          · rw [zwi_at, if_pos rfl]
          · rw [zwi_at, if_neg (by decide)]; exact gk.1
          · intro j hj
            rw [zwi_ne (by decide), zwi_ne (by decide)]; exact gk.2 j hj
        · have ho : yop k = true := by
            rcases hk with q | q | q
            · exact q
            · exact absurd q n40
            · exact absurd (kc.2.1.mpr q) e2
          have oy := yop_y ho
          refine zix_n (by omega) (by decide) (m_add (x := -(nI k)) oy.1.symm oy.2.symm k2' (by omega) (fun J1 g1 g2 gk => kV ?_))
          refine l_close hm s _ _ ⟨?_, ?_, ?_⟩ gk (fun x hx => hv x (List.mem_cons_of_mem _ hx)) (by rw [List.length_append]; show W.length + 1 + s.length ≤ 310; omega) (by omega) (yfa_tr f1 ⟨fun c j a b e => g1 c j (by omega) b e, g2⟩) hQ
          · rw [g1 145 19 (by omega) (by decide) (by decide)]; exact w19
          · exact ystk_c s (fun j _ => by rw [g1 152 j (by omega) (by decide) (by decide), w152]) h1.2.1.2
          · rw [g1 145 23 (by omega) (by decide) (by decide), w23]
            rw [ydp_op n40 (fun q => e2 (kc.2.1.mpr q))]
theorem m_close {m : Nat} {s : List Nat} {W : List Int32} {x : Int32} (hx : x = nI m) (hm : m ≤ 6) (h1 : yk1 s IL) (h2 : yk2 W IL) (hv : ∀ k, k ∈ s → yvs k) (hl : W.length + s.length ≤ 310) (hl2 : s.length ≤ 100) (hQ : ∀ IL', yfa IL IL' → yk1 (yclo m s W).1 IL' → yk2 (yclo m s W).2 IL' → Q (zFx t, IL') none) : zcall xs (d + 2) 173 (zFx t, IL) [.ref 145, .int x] Q := by
  subst hx
  exact sX8_close t _ IL (l_close hm s W IL h1 h2 hv hl hl2 yfa_rf hQ)
def yix (s : List Nat) : Int32 := match s with
  | [] => -1
  | _ :: s => nI s.length
theorem yix_p (s : List Nat) : nI s.length + (-1) = yix s := by
  cases s with
  | nil => decide
  | cons k s => exact pk_m1 s.length
theorem l_hr : ∀ (s : List Nat), ystk s (IL.1 152) → (∀ k, k ∈ s → yvs k) → s.length ≤ 100 → Q (zFx t, IL) (some (.int (if yhr s then 1 else 0))) → gX8_hasRelation xs (d + 1) Q 7 [.ref 145, .int (yix s)] [] (zFx t, IL)
  | [], _, _, _, hQ => sX8_hasRelation_7 t _ IL (zdec (fun _ => zdec (fun _ => hQ) (fun z => absurd (by decide) z)) (fun z => absurd (by decide) z))
  | k :: s, h, hv, hl, hQ => by
    have hk := hv k List.mem_cons_self
    have kc := yvs_c hk
    have hl3 : s.length + 1 ≤ 100 := hl
    have top : IL.1 152 s.length = nI (ypmc k) := h.1
    refine sX8_hasRelation_7 t _ IL ?_
    show zif2 (decide (nI s.length < 0)) _ _
    unfold yhr at hQ
    have ng : ¬ nI s.length < 0 := nI_pos (by omega)
    refine zdec (fun z => absurd z ng) (fun _ => ?_)
    show zix (nI s.length) 160 _
    refine zix_n (by omega) (by decide) ?_
    show zif2 (decide (IL.1 152 (nI s.length).toNatClampNeg = 20)) _ _
    rw [ycl (by omega), top]
    refine zkn (c := 20) rfl rfl (by omega) (by decide) (fun e => ?_) (fun e => ?_)
    · rw [if_pos (kc.1.mp e)] at hQ
      refine zdec (fun z => absurd z ng) (fun _ => ?_)
      show zix (nI s.length) 160 _
      refine zix_n (by omega) (by decide) ?_
      show zif2 (decide (IL.1 152 (nI s.length).toNatClampNeg = 20)) _ _
      rw [ycl (by omega), top]
      exact zkn (c := 20) rfl rfl (by omega) (by decide) (fun _ => hQ) (fun w => absurd e w)
    · have n40 : k ≠ 40 := fun q => e (kc.1.mpr q)
      rw [if_neg n40] at hQ
      show zix (nI s.length) 160 _
      refine zix_n (by omega) (by decide) ?_
      show zcall xs (d + 1) 172 (zFx t, IL) [.int (IL.1 152 (nI s.length).toNatClampNeg)] _
      rw [ycl (by omega), top]
      refine m_tight hk n40 (kI (zln (k := 4) rfl rfl (by decide) (by omega) (fun z => ?_) (fun z => ?_)))
      · rw [if_pos z] at hQ
        show gX8_hasRelation xs (d + 1) Q 7 [.ref 145, .int (nI s.length + (-1))] [] (zFx t, IL)
        rw [yix_p]
        exact l_hr s h.2 (fun x hx => hv x (List.mem_cons_of_mem _ hx)) (by omega) hQ
      · rw [if_neg (show ¬ 4 < ytg k by omega)] at hQ
        refine zdec (fun z => absurd z ng) (fun _ => ?_)
        show zix (nI s.length) 160 _
        refine zix_n (by omega) (by decide) ?_
        show zif2 (decide (IL.1 152 (nI s.length).toNatClampNeg = 20)) _ _
        rw [ycl (by omega), top]
        refine zkn (c := 20) rfl rfl (by omega) (by decide) (fun w => absurd w e) (fun _ => ?_)
        show zix (nI s.length) 160 _
        refine zix_n (by omega) (by decide) ?_
        show zcall xs (d + 1) 172 (zFx t, IL) [.int (IL.1 152 (nI s.length).toNatClampNeg)] _
        rw [ycl (by omega), top]
        refine m_tight hk n40 (kI (zkn (c := 4) rfl rfl (by omega) (by decide) (fun w => ?_) (fun w => ?_)))
        · rw [decide_eq_true w] at hQ; exact hQ
        · rw [decide_eq_false w] at hQ; exact hQ
theorem m_hasRel {s : List Nat} (h1 : yk1 s IL) (hv : ∀ k, k ∈ s → yvs k) (hl : s.length ≤ 100) (hQ : Q (zFx t, IL) (some (.int (if yhr s then 1 else 0)))) : zcall xs (d + 2) 174 (zFx t, IL) [.ref 145] Q := by
  refine sX8_hasRelation t IL ?_
  have e : IL.1 145 19 - 1 = yix s := by
    rw [h1.1, ← yix_p]
    rw [Int32.sub_eq_add_neg]
  rw [e]
  exact l_hr s h1.2.1 hv hl hQ
theorem m_mayNot {s : List Nat} (h1 : yk1 s IL) (hv : ∀ k, k ∈ s → yvs k) (hl : s.length ≤ 100) (hQ : Q (zFx t, IL) (some (.int (if ypcn 4 s then 1 else 0)))) : zcall xs (d + 2) 175 (zFx t, IL) [.ref 145] Q := by
  refine sX8_mayNot t IL ?_
  cases s with
  | nil =>
    rw [h1.1]
    exact zkn (k := 0) (c := 0) rfl rfl (by decide) (by decide) (fun _ => hQ) (fun z => absurd rfl z)
  | cons k s =>
    have hk := hv k List.mem_cons_self
    have kc := yvs_c hk
    have hl3 : s.length + 1 ≤ 100 := hl
    have e19 : IL.1 145 19 = nI (s.length + 1) := h1.1
    have top : IL.1 152 s.length = nI (ypmc k) := h1.2.1.1
    rw [e19, nI_pred, ycl (by omega), top]
    have hc : ypcn 4 (k :: s) = decide (k = 40 ∨ ytg k < 4) := rfl
    rw [hc] at hQ
    refine zkn (c := 0) rfl rfl (by omega) (by decide) (fun z => by omega) (fun _ => zix_n (by omega) (by decide) (zkn (c := 20) rfl rfl (by omega) (by decide) (fun e => ?_) (fun e => zix_n (by omega) (by decide) ?_)))
    · rw [decide_eq_true (Or.inl (kc.1.mp e))] at hQ; exact hQ
    · have n40 : k ≠ 40 := fun q => e (kc.1.mpr q)
      refine m_tight hk n40 (kI (zln (c := 4) rfl rfl (by omega) (by decide) (fun z => ?_) (fun z => ?_)))
      · rw [decide_eq_true (Or.inr z)] at hQ; exact hQ
      · rw [decide_eq_false (show ¬ (k = 40 ∨ ytg k < 4) by omega)] at hQ; exact hQ
end MFORM
