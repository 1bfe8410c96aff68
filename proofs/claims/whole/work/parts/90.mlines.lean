/-! the model takes tokens -/
theorem sX8_readLine_193 {xs : List Int32} {d : Nat} {Q : zQ} (t : Bool) (IL : zIL) (hh : (zcall xs d 163 (zFx t, IL) [.ref 145, .long (1685217655)] (zkI (zFx t) fun IL1 y1 => (zif2 (decide ((y1 : Int32) = 0)) (gX8_readLine xs d Q 233 [.ref 145] [] (zFx t, IL1)) (zif2 (decide (((IL1.1 145 51) : Int32) = 0)) (zcall xs d 168 (zFx t, (zwi IL1 145 51 (1))) [.ref 145, .long (1685217655), .int (0), .int (999)] (zkI (zFx t) fun IL2 y2 => gX8_readLine xs d Q 238 [.ref 145] [] (zFx t, (zwi IL2 145 40 y2)))) (gX8_readLine xs d Q 233 [.ref 145] [] (zFx t, IL1))))))) : gX8_readLine xs d Q 193 [.ref 145] [] (zFx t, IL) := zseg (zcall_m xs d) 22 [26, 52, 76, 115, 154, 193, 233, 238, 259, 270] hh
theorem sX8_readLine_233 {xs : List Int32} {d : Nat} {Q : zQ} (t : Bool) (IL : zIL) (hh : (zcall xs d 162 (zFx t, IL) [.ref 145, .int (2)] (zkV (zFx t) fun IL1 => gX8_readLine xs d Q 238 [.ref 145] [] (zFx t, IL1)))) : gX8_readLine xs d Q 233 [.ref 145] [] (zFx t, IL) := zseg (zcall_m xs d) 9 [26, 52, 76, 115, 154, 193, 233, 238, 259, 270] hh
/-- frame of the taking of tokens -/
def yfy (A B : zIL) : Prop := (∀ c j, ¬ (c = 145 ∧ (j = 2 ∨ j = 3 ∨ j = 4 ∨ (6 ≤ j ∧ j ≤ 8))) → B.1 c j = A.1 c j) ∧ (∀ c j, ¬ (c = 145 ∧ j = 9) → B.2 c j = A.2 c j)
theorem yfy_rf {A : zIL} : yfy A A := ⟨fun _ _ _ => rfl, fun _ _ _ => rfl⟩
theorem yfy_tr {A B C : zIL} (h1 : yfy A B) (h2 : yfy B C) : yfy A C := ⟨fun c j a => (h2.1 c j a).trans (h1.1 c j a), fun c j h => (h2.2 c j h).trans (h1.2 c j h)⟩
theorem yfy_q {A B : zIL} (h : yfq A B) : yfy A B := ⟨fun c j a => h.1 c j (by omega), h.2⟩
theorem yfy_f {A B : zIL} (f : ∀ c j, ¬ (c = 145 ∧ (j = 2 ∨ j = 3)) → B.1 c j = A.1 c j) (f2 : B.2 = A.2) : yfy A B := ⟨fun c j a => f c j (by omega), fun c j _ => by rw [f2]⟩
theorem ymt_y {n : Nat} {B : Nat → Nat} {A C : zIL} (h : ymt n B A) (f : yfy A C) : ymt n B C := ⟨by rw [f.1 145 5 (by omega)]; exact h.1, fun j hj => by rw [f.1 146 j (by omega)]; exact h.2 j hj⟩
/-- the model at a token, or with a fault -/
def yV (B : Nat → Nat) (n : Nat) (r : Nat × ytkT) (IL : zIL) : Prop := ymt n B IL ∧ ytkO n r.2 ∧ r.1 ≤ 4 ∧ (r.1 = 0 → ytM r.2 IL ∧ IL.1 145 2 = 0) ∧ (r.1 ≠ 0 → ypY r.1 r.2.s IL)
theorem yV_gt {B : Nat → Nat} {n : Nat} {r : Nat × ytkT} {IL : zIL} (h : yV B n r IL) (h0 : r.1 ≠ 0) : 0 < IL.1 145 2 := by
  rw [(h.2.2.2.2 h0).1]
  exact nI_lt (a := 0) (by omega) (by have := h.2.2.1; omega)
theorem yV_ne {B : Nat → Nat} {n : Nat} {r : Nat × ytkT} {IL : zIL} (h : yV B n r IL) (h0 : r.1 ≠ 0) : IL.1 145 2 ≠ 0 := by
  rw [(h.2.2.2.2 h0).1]
  exact nI_ne h0 (by have := h.2.2.1; omega)
theorem yV_z {B : Nat → Nat} {n : Nat} {r : Nat × ytkT} {IL : zIL} (h : yV B n r IL) (h0 : r.1 = 0) : ¬ 0 < IL.1 145 2 := by
  rw [(h.2.2.2.1 h0).2]
  decide
section MLINES
variable {xs : List Int32} {d : Nat} {Q : zQ} {t : Bool} {IL : zIL} {B : Nat → Nat} {n : Nat}
theorem m_tokV {a : ytkT} (hn : n ≤ 1600) (hB : ∀ j, j < n → B j < 256) (ht : ymt n B IL) (hO : ytkO n a) (tk : ytM a IL) (hk : a.k ≠ 0) (h2 : IL.1 145 2 = 0) (hQ : ∀ IL', yfy IL IL' → yV B n (0, ynt B n a) IL' → Q (zFx t, IL') none) : zcall xs (d + 2) 161 (zFx t, IL) [.ref 145] Q :=
  c_token hn hB ht hO.1.2.1 (tk.2.2.1 hk) tk.2.2.2.2.2 (fun IL' f t1 => hQ IL' (yfy_q f) ⟨ymt_fr ht f, ytkO_nt hB hO, Nat.zero_le _, fun _ => ⟨t1, by rw [f.1 145 2 (by omega)]; exact h2⟩, fun z => absurd rfl z⟩)
theorem m_wrongV {a : ytkT} {x : Int32} {c : Nat} (hx : x = nI c) (hc : c ≠ 0) (hc4 : c ≤ 4) (ht : ymt n B IL) (hO : ytkO n a) (tk : ytM a IL) (h2 : IL.1 145 2 = 0) (hQ : ∀ IL', yfy IL IL' → yV B n (if a.k = 0 then 1 else c, a) IL' → Q (zFx t, IL') none) : zcall xs (d + 1) 162 (zFx t, IL) [.ref 145, .int x] Q := by
  have e4 : (if a.k = 0 then 1 else c) ≤ 4 := by split <;> omega
  have e0 : (if a.k = 0 then 1 else c) ≠ 0 := by split <;> omega
  exact m_wrong hx tk hO.2.2.2.2.2 h2 (fun IL' f f2 y => hQ IL' (yfy_f f f2) ⟨ymt_y ht (yfy_f f f2), hO, e4, fun z => absurd z e0, fun _ => y⟩)
theorem m_want {r : Nat × ytkT} {w : Int64} {i : Nat} (hn : n ≤ 1600) (hB : ∀ j, j < n → B j < 256) (hi : i < 18) (hw : w = y8 (ykw.getD i [])) (h : yV B n r IL) (hQ : ∀ IL', yfy IL IL' → yV B n (ysp B n (yck (100 + i)) r) IL' → Q (zFx t, IL') none) : zcall xs (d + 3) 166 (zFx t, IL) [.ref 145, .long w] Q := by
  unfold ysp at hQ
  by_cases h0 : r.1 = 0
  · rw [if_pos h0] at hQ
    obtain ⟨tk, h2⟩ := h.2.2.2.1 h0
    unfold yck at hQ
    refine sX8_want t w IL (zdec (fun z => absurd z (yV_z h h0)) (fun _ => m_isWord (d := d + 1) hi hw tk h.2.1.2 (fun e => kI (z1 (m_tokV hn hB h.1 h.2.1 tk (by omega) h2 (fun I1 f1 V1 => kV (hQ I1 f1 ?_))))) (fun e => kI (z0 (m_wrongV (d := d + 1) (c := 2) rfl (by decide) (by decide) h.1 h.2.1 tk h2 (fun I1 f1 V1 => kV (hQ I1 f1 ?_)))))))
    · rw [if_pos e, if_pos rfl]; exact V1
    · rw [if_neg e, if_neg (yrf_2 _).2]; exact V1
  · rw [if_neg h0] at hQ
    exact sX8_want t w IL (zdec (fun _ => hQ IL yfy_rf h) (fun z => absurd (yV_gt h h0) z))
theorem m_toldN {r : Nat × ytkT} {x y : Int32} {lo hi : Nat} (hn : n ≤ 1600) (hB : ∀ j, j < n → B j < 256) (hx : x = nI lo) (hy : y = nI hi) (hlo : lo ≤ 10000) (hhi : hi ≤ 10000) (h : yV B n r IL) (hQ : ∀ IL' v, yfy IL IL' → yV B n (ysp B n (yckn lo hi) r) IL' → ((ysp B n (yckn lo hi) r).1 = 0 → v = nI r.2.n) → Q (zFx t, IL') (some (.int v))) : zcall xs (d + 3) 167 (zFx t, IL) [.ref 145, .int x, .int y] Q := by
  unfold ysp at hQ
  by_cases h0 : r.1 = 0
  · rw [if_pos h0] at hQ
    obtain ⟨tk, h2⟩ := h.2.2.2.1 h0
    have sr := ysrt_1 h.2.1.2.2.2.2.2
    unfold yckn at hQ
    -- behind a fault
    have bad : ∀ (x : Int32) (c : Nat), x = nI c → c ≠ 0 → c ≤ 4 → (∀ I1 v, yfy IL I1 → yV B n (if r.2.k = 0 then 1 else c, r.2) I1 → Q (zFx t, I1) (some (.int v))) → zcall xs (d + 2) 162 (zFx t, IL) [.ref 145, .int x] (zkV (zFx t) fun IL1 => zif2 (decide (IL1.1 145 2 = 0)) (zcall xs (d + 2) 161 (zFx t, IL1) [.ref 145] (zkV (zFx t) fun IL2 => Q (zFx t, IL2) (some (.int (IL1.1 145 8))))) (Q (zFx t, IL1) (some (.int (IL1.1 145 8))))) := fun x c hx hc hc4 hq => by
      have e0 : (if r.2.k = 0 then 1 else c) ≠ 0 := by split <;> omega
      exact m_wrongV (d := d + 1) hx hc hc4 h.1 h.2.1 tk h2 (fun I1 f1 V1 => kV (zdec (fun z => absurd z (yV_ne V1 e0)) (fun _ => hq I1 _ f1 V1)))
    refine sX8_toldNumber t x y IL (zdec (fun z => absurd z (yV_z h h0)) (fun _ => zkn (c := 2) tk.1 rfl (by omega) (by decide) (fun e => ?_) (fun e => ?_)))
    · have k2 := sr.2.2.1.mp e
      have e8 := tk.2.2.2.1 k2
      have nn := h.2.1.2.1 k2
      rw [if_pos k2] at hQ
      have no : ¬ (lo ≤ r.2.n ∧ r.2.n ≤ hi) → ∀ I1 v, yfy IL I1 → yV B n (if r.2.k = 0 then 1 else 4, r.2) I1 → Q (zFx t, I1) (some (.int v)) := fun c I1 v f1 V1 => by
        rw [if_neg c, if_neg (show ¬ (4 : Nat) = 0 by decide)] at hQ
        rw [if_neg (by omega)] at V1
        exact hQ I1 v f1 V1 (fun z => absurd (show (4 : Nat) = 0 from z) (by decide))
      refine zln e8 hx (by omega) (by omega) (fun q => bad _ 4 rfl (by decide) (by decide) (no (by omega))) (fun q => zln hy e8 (by omega) (by omega) (fun q2 => bad _ 4 rfl (by decide) (by decide) (no (by omega))) (fun q2 => zdec (fun _ => m_tokV hn hB h.1 h.2.1 tk (by omega) h2 (fun I1 f1 V1 => kV ?_)) (fun z => absurd h2 z)))
      rw [if_pos (show lo ≤ r.2.n ∧ r.2.n ≤ hi by omega), if_pos rfl] at hQ
      exact hQ I1 _ f1 V1 (fun _ => e8)
    · have k2 : r.2.k ≠ 2 := fun q => e (sr.2.2.1.mpr q)
      rw [if_neg k2] at hQ
      rw [if_neg (yrf_2 _).2] at hQ
      exact bad _ 2 rfl (by decide) (by decide) (fun I1 v f1 V1 => hQ I1 v f1 V1 (fun z => absurd z (yrf_2 _).2))
  · rw [if_neg h0] at hQ
    exact sX8_toldNumber t x y IL (zdec (fun _ => hQ IL _ yfy_rf h (fun z => absurd z h0)) (fun z => absurd (yV_gt h h0) z))
theorem m_told {r : Nat × ytkT} {w : Int64} {x y : Int32} {i lo hi : Nat} (hn : n ≤ 1600) (hB : ∀ j, j < n → B j < 256) (hi18 : i < 18) (hw : w = y8 (ykw.getD i [])) (hx : x = nI lo) (hy : y = nI hi) (hlo : lo ≤ 10000) (hhi : hi ≤ 10000) (h : yV B n r IL) (hQ : ∀ IL' v, yfy IL IL' → yV B n (ysp B n (yckn lo hi) (ysp B n (yck (100 + i)) r)) IL' → ((ysp B n (yckn lo hi) (ysp B n (yck (100 + i)) r)).1 = 0 → v = nI (ysp B n (yck (100 + i)) r).2.n) → Q (zFx t, IL') (some (.int v))) : zcall xs (d + 4) 168 (zFx t, IL) [.ref 145, .long w, .int x, .int y] Q :=
  sX8_told t w x y IL (m_want hn hB hi18 hw h (fun I1 f1 V1 => kV (m_toldN hn hB hx hy hlo hhi V1 (fun I2 v f2 V2 e => kI (hQ I2 v (yfy_tr f1 f2) V2 e)))))
theorem m_isOwn {a : ytkT} (tk : ytM a IL) (hg : ytkg a) (hk : a.k = 3 ∨ 100 ≤ a.k) (h1 : 100 ≤ a.k → Q (zFx t, IL) (some (.int 1))) (h0 : a.k = 3 → Q (zFx t, IL) (some (.int 0))) : zcall xs (d + 1) 164 (zFx t, IL) [.ref 145] Q := by
  have y : ∀ i, a.k = 100 + i → Q (zFx t, IL) (some (.int 1)) := fun i e => h1 (by omega)
  have K := hg.2.2.2.2
  refine sX8_isOwn t IL (m_lw (i := 0) (by decide) (by decide +kernel) tk hg hk (y 0) (fun n0 => m_lw (i := 7) (by decide) (by decide +kernel) tk hg hk (y 7) (fun n1 => m_lw (i := 8) (by decide) (by decide +kernel) tk hg hk (y 8) (fun n2 => m_lw (i := 13) (by decide) (by decide +kernel) tk hg hk (y 13) (fun n3 => m_lw (i := 14) (by decide) (by decide +kernel) tk hg hk (y 14) (fun n4 => m_lw (i := 1) (by decide) (by decide +kernel) tk hg hk (y 1) (fun n5 => m_lw (i := 12) (by decide) (by decide +kernel) tk hg hk (y 12) (fun n6 => m_lw (i := 2) (by decide) (by decide +kernel) tk hg hk (y 2) (fun n7 => m_lw (i := 3) (by decide) (by decide +kernel) tk hg hk (y 3) (fun n8 => m_lw (i := 4) (by decide) (by decide +kernel) tk hg hk (y 4) (fun n9 => m_lw (i := 5) (by decide) (by decide +kernel) tk hg hk (y 5) (fun n10 => m_lw (i := 6) (by decide) (by decide +kernel) tk hg hk (y 6) (fun n11 => m_lw (i := 15) (by decide) (by decide +kernel) tk hg hk (y 15) (fun n12 => m_lw (i := 16) (by decide) (by decide +kernel) tk hg hk (y 16) (fun n13 => m_lw (i := 17) (by decide) (by decide +kernel) tk hg hk (y 17) (fun n14 => m_lw (i := 10) (by decide) (by decide +kernel) tk hg hk (y 10) (fun n15 => m_lw (i := 9) (by decide) (by decide +kernel) tk hg hk (y 9) (fun n16 => m_lw (i := 11) (by decide) (by decide +kernel) tk hg hk (y 11) (fun n17 => h0 (by omega))))))))))))))))))))
theorem m_isName {a : ytkT} (tk : ytM a IL) (hg : ytkg a) (h1 : a.k = 3 → Q (zFx t, IL) (some (.int 1))) (h0 : a.k ≠ 3 → Q (zFx t, IL) (some (.int 0))) : zcall xs (d + 2) 165 (zFx t, IL) [.ref 145] Q := by
  have s := ysrt_1 hg.2.2.2.2
  refine sX8_isName t IL (zkn (c := 1) tk.1 rfl (by omega) (by decide) (fun e => ?_) (fun e => h0 (fun q => e (s.1.mpr (Or.inl q)))))
  exact m_isOwn tk hg (s.1.mp e) (fun q => kI (z1 (h0 (by omega)))) (fun q => kI (z0 (h1 q)))
theorem m_find {a : ytkT} {L : List (List Nat)} {x : Int32} {f m : Nat} (hx : x = nI f) (hf : f + m ≤ 13) (hl : L.length = m) (hw : ∀ w, w ∈ L → ywd1 w) (hL : ∀ j, j < m → IL.2 147 (f + j) = y8 (L.getD j [])) (tk : ytM a IL) (hg : ytkg a) (hk : a.k = 3) (h1 : a.w ∈ L → ∀ i, i < 7 → Q (zFx t, IL) (some (.int (nI i)))) (h0 : ¬ a.w ∈ L → Q (zFx t, IL) (some (.int (-1)))) (hm : m ≤ 7) : zcall xs (d + 1) 169 (zFx t, IL) [.ref 145, .int x, .int (nI m)] Q := by
  subst hx
  have e9 := tk.2.2.2.2.1 (Or.inl hk)
  have rw1 := hg.2.1 (Or.inl hk)
  have main : ∀ (k i : Nat) (v : Int32), i + k = m → ((∃ j, j < i ∧ L.getD j [] = a.w) → ∃ q, q < 7 ∧ v = nI q) → ((¬ ∃ j, j < i ∧ L.getD j [] = a.w) → v = -1) → gX8_find xs d Q 5 [.ref 145, .int (nI f), .int (nI m), .int v, .int (nI i)] [] (zFx t, IL) := by
    intro k
    induction k with
    | zero =>
      intro i v hi hy hno
      refine sX8_find_5 t _ _ _ _ IL (zd_f (n := m) rfl (by omega) (by omega) ?_)
      by_cases q : ∃ j, j < i ∧ L.getD j [] = a.w
      · obtain ⟨j, hj, ej⟩ := q
        obtain ⟨c, c7, ec⟩ := hy ⟨j, hj, ej⟩
        rw [ec]
        have li : j < L.length := by omega
        refine h1 ?_ c c7
        rw [← ej, List.getD_eq_getElem?_getD, List.getElem?_eq_getElem li]
        exact List.getElem_mem li
      · rw [hno q]
        refine h0 (fun w => q ?_)
        obtain ⟨j, hj, ej⟩ := List.mem_iff_getElem.mp w
        refine ⟨j, by omega, ?_⟩
        rw [List.getD_eq_getElem?_getD, List.getElem?_eq_getElem hj]
        exact ej
    | succ k ih =>
      intro i v hi hy hno
      refine sX8_find_5 t _ _ _ _ IL (zd_t (n := m) rfl (by omega) (by omega) ?_)
      rw [nI_add, ycl (by omega), nI_1, e9, hL i (by omega)]
      have li : i < L.length := by omega
      have lw : ywd1 (L.getD i []) := hw _ (by
        rw [List.getD_eq_getElem?_getD, List.getElem?_eq_getElem li]
        exact List.getElem_mem li)
      refine zix_n (by omega) (by decide) (zdec (fun z => ?_) (fun z => ?_))
      · have ew := y8_inj lw rw1 (lg_0.mp z)
        exact ih (i + 1) _ (by omega) (fun _ => ⟨i, by omega, rfl⟩) (fun q => absurd ⟨i, by omega, ew⟩ q)
      · have ne : L.getD i [] ≠ a.w := fun q => z (lg_0.mpr (by rw [q]))
        refine ih (i + 1) v (by omega) (fun ⟨j, hj, ej⟩ => hy ⟨j, ?_, ej⟩) (fun q => hno (fun ⟨j, hj, ej⟩ => q ⟨j, by omega, ej⟩))
        by_cases e : j = i
        · subst e; exact absurd ej ne
        · omega
  exact sX8_find t _ _ IL (main m 0 (-1) (by omega) (fun ⟨j, hj, _⟩ => absurd hj (Nat.not_lt_zero j)) (fun _ => rfl))
/-- a new name, from the word ahead of it on -/
theorem m_newName {a : ytkT} {L : List (List Nat)} {x : Int32} {f m : Nat} (hn : n ≤ 1600) (hB : ∀ j, j < n → B j < 256) (hx : x = nI f) (hf : f + m < 13) (hm : m < 7) (hl : L.length = m) (hw : ∀ w, w ∈ L → ywd1 w) (hL : ∀ j, j < m → IL.2 147 (f + j) = y8 (L.getD j [])) (ht : ymt n B IL) (hO : ytkO n a) (tk : ytM a IL) (hk : a.k ≠ 0) (h2 : IL.1 145 2 = 0) (hQ : ∀ IL', (∀ c j, ¬ (c = 145 ∧ (j = 2 ∨ j = 3 ∨ j = 4 ∨ (6 ≤ j ∧ j ≤ 8))) → IL'.1 c j = IL.1 c j) → (∀ c j, ¬ (c = 145 ∧ j = 9) → ¬ (c = 147 ∧ j = f + m) → IL'.2 c j = IL.2 c j) → yV B n (ysp B n (yckw L) (0, ynt B n a)) IL' → ((ysp B n (yckw L) (0, ynt B n a)).1 = 0 → IL'.2 147 (f + m) = y8 (ynt B n a).w) → Q (zFx t, IL') none) : zcall xs (d + 3) 170 (zFx t, IL) [.ref 145, .int x, .int (nI m)] Q := by
  subst hx
  unfold ysp at hQ
  rw [if_pos rfl] at hQ
  unfold yckw at hQ
  refine sX8_newName t _ _ IL (m_tokV hn hB ht hO tk hk h2 (fun I1 f1 V1 => kV ?_))
  obtain ⟨t1, z1'⟩ := V1.2.2.2.1 rfl
  have O1 := V1.2.1
  have t1' : ytM (ynt B n a) I1 := t1
  have O1' : ytkO n (ynt B n a) := O1
  have hL1 : ∀ j, j < m → I1.2 147 (f + j) = y8 (L.getD j []) := fun j hj => by rw [f1.2 147 _ (by omega)]; exact hL j hj
  generalize ynt B n a = b at hQ t1' O1'
  refine m_isName (d := d) t1' O1'.2 (fun k3 => kI (z1 ?_)) (fun k3 => kI (z0 ?_))
  · rw [if_pos k3] at hQ
    refine m_find (d := d + 1) rfl (by omega) hl hw hL1 t1' O1'.2 k3 (fun yin i i7 => kI ?_) (fun nin => kI ?_) (by omega)
    · rw [if_pos yin, if_neg (by decide)] at hQ
      refine zdec (fun z => absurd z (nI_pos (by omega))) (fun _ => m_wrongV (d := d + 1) (c := 3) rfl (by decide) (by decide) V1.1 O1' t1' z1' (fun I7 f7 V7 => kV ?_))
      rw [if_neg (by omega)] at V7
      exact zdec (fun _ => hQ I7 (fun c j z => (f7.1 c j z).trans (f1.1 c j z)) (fun c j z _ => (f7.2 c j z).trans (f1.2 c j z)) V7 (fun z => absurd (show (3 : Nat) = 0 from z) (by decide))) (fun z => absurd (yV_gt V7 (show (3 : Nat) ≠ 0 by decide)) z)
    · rw [if_neg nin, if_pos rfl] at hQ
      refine zdec (fun _ => zdec (fun z => absurd z (by rw [z1']; decide)) (fun _ => ?_)) (fun z => absurd (by decide) z)
      rw [nI_add, ycl (by omega), t1'.2.2.2.2.1 (Or.inl k3)]
      refine zix_n (by omega) (by decide) ?_
      have w2 : ∀ c j, ¬ (c = 147 ∧ j = f + m) → (zwl I1 147 (f + m) (y8 b.w)).2 c j = I1.2 c j := fun c j z => by
        show zup I1.2 147 (f + m) _ c j = _
        by_cases e3 : c = 147
        · subst e3
          rw [zup_at, if_neg (by omega)]
        · rw [zup_ne e3]
      have tJ : ytM b (zwl I1 147 (f + m) (y8 b.w)) := ⟨t1'.1, t1'.2.1, t1'.2.2.1, t1'.2.2.2.1, fun z => by rw [w2 145 9 (by omega)]; exact t1'.2.2.2.2.1 z, t1'.2.2.2.2.2⟩
      refine m_tokV (d := d) hn hB (show ymt n B (zwl I1 147 (f + m) (y8 b.w)) from V1.1) O1' tJ (by omega) z1' (fun I6 f6 V6 => kV (hQ I6 (fun c j z => (f6.1 c j z).trans (f1.1 c j z)) (fun c j z z2 => ?_) V6 (fun _ => ?_)))
      · rw [f6.2 c j z, w2 c j z2]; exact f1.2 c j z
      · rw [f6.2 147 _ (by omega)]
        exact zwl_at
  · rw [if_neg k3, if_neg (yrf_2 _).2] at hQ
    refine m_wrongV (d := d + 1) (c := 2) rfl (by decide) (by decide) V1.1 O1' t1' z1' (fun I3 f3 V3 => kV ?_)
    have V3' : yV B n (yrf b, b) I3 := V3
    exact zdec (fun _ => hQ I3 (fun c j z => (f3.1 c j z).trans (f1.1 c j z)) (fun c j z _ => (f3.2 c j z).trans (f1.2 c j z)) V3' (fun z => absurd z (yrf_2 _).2)) (fun z => absurd (yV_gt V3' (yrf_2 _).2) z)
end MLINES
