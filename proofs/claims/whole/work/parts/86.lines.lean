/-! the lines of a text, as data; the class takes tokens -/
def yck (k : Nat) (a : ytkT) : Nat := if a.k = k then 0 else yrf a
def yckn (lo hi : Nat) (a : ytkT) : Nat := if a.k = 2 then (if lo ≤ a.n ∧ a.n ≤ hi then 0 else 4) else yrf a
def yckw (L : List (List Nat)) (a : ytkT) : Nat := if a.k = 3 then (if a.w ∈ L then 3 else 0) else yrf a
def ycki (a : ytkT) : Nat := if a.k = 107 ∨ a.k = 108 then 0 else yrf a
/-- one token more, if all went well -/
def ysp (B : Nat → Nat) (n : Nat) (c : ytkT → Nat) (r : Nat × ytkT) : Nat × ytkT := if r.1 = 0 then (if c r.2 = 0 then (0, ynt B n r.2) else (c r.2, r.2)) else r
theorem ysp_0 {B : Nat → Nat} {n : Nat} {c : ytkT → Nat} {r : Nat × ytkT} (h : (ysp B n c r).1 = 0) : r.1 = 0 ∧ c r.2 = 0 ∧ ysp B n c r = (0, ynt B n r.2) := by
  unfold ysp at h ⊢
  by_cases h1 : r.1 = 0
  · rw [if_pos h1] at h ⊢
    by_cases h2 : c r.2 = 0
    · rw [if_pos h2]; exact ⟨h1, h2, rfl⟩
    · rw [if_neg h2] at h; exact absurd h h2
  · rw [if_neg h1] at h; exact absurd h h1
/-- what stands of a text so far: the token, names, what was told once, the House -/
def yZ : Type := ytkT × List (List Nat) × List (List Nat) × (Nat → Bool) × yH
def yZ.mk (a : ytkT) (m c : List (List Nat)) (f : Nat → Bool) (H : yH) : yZ := (a, m, c, f, H)
def yZ.tk (Z : yZ) : ytkT := Z.1
def yZ.mn (Z : yZ) : List (List Nat) := Z.2.1
def yZ.cn (Z : yZ) : List (List Nat) := Z.2.2.1
def yZ.fl (Z : yZ) : Nat → Bool := Z.2.2.2.1
def yZ.H (Z : yZ) : yH := Z.2.2.2.2
def yZ.at (Z : yZ) (a : ytkT) : yZ := yZ.mk a Z.mn Z.cn Z.fl Z.H
def yup (f : Nat → Int32) (n : Nat) (v : Int32) : Nat → Int32 := fun j => if j = n then v else f j
def yfu (f : Nat → Bool) (n : Nat) : Nat → Bool := fun j => if j = n then true else f j
section LINES
variable (B : Nat → Nat) (n : Nat)
def ym2 (Z : yZ) : Nat × ytkT := ysp B n (yckw Z.mn) (0, ynt B n Z.tk)
def ym3 (Z : yZ) : Nat × ytkT := ysp B n ycki (ym2 B n Z)
def ym4 (Z : yZ) : Nat × ytkT := ysp B n (yck 113) (ym3 B n Z)
def ym5 (Z : yZ) : Nat × ytkT := ysp B n (yckn 0 9) (ym4 B n Z)
def ym6 (Z : yZ) : Nat × ytkT := ysp B n (yck 114) (ym5 B n Z)
def ym7 (Z : yZ) : Nat × ytkT := ysp B n (yckn 0 9) (ym6 B n Z)
def ym8 (Z : yZ) : Nat × ytkT := ysp B n (yck 59) (ym7 B n Z)
def yHm (H : yH) (o : Bool) (mi vo : Int32) : yH := yH.mk (H.n + 1) H.k (yup H.mi H.n mi) (yup H.vo H.n vo) H.sh (if o then H.out ||| (1 <<< (nI H.n &&& 31)) else H.out) H.cock H.quota H.puns H.draw H.ss H.units
def yLm (Z : yZ) : Nat × yZ := if 7 ≤ Z.H.n then (2, Z) else if (ym8 B n Z).1 = 0 then (0, yZ.mk (ym8 B n Z).2 (Z.mn ++ [(ynt B n Z.tk).w]) Z.cn Z.fl (yHm Z.H (decide ((ym2 B n Z).2.k = 108)) (nI (ym4 B n Z).2.n) (nI (ym6 B n Z).2.n))) else ((ym8 B n Z).1, Z.at (ym8 B n Z).2)
def yc2 (Z : yZ) : Nat × ytkT := ysp B n (yckw Z.cn) (0, ynt B n Z.tk)
def yc3 (Z : yZ) : Nat × ytkT := ysp B n (yck 112) (yc2 B n Z)
def yc4 (Z : yZ) : Nat × ytkT := ysp B n (yckn 0 20) (yc3 B n Z)
def yc5 (Z : yZ) : Nat × ytkT := ysp B n (yck 59) (yc4 B n Z)
def yHc (H : yH) (sh : Int32) : yH := yH.mk H.n (H.k + 1) H.mi H.vo (yup H.sh H.k sh) H.out H.cock H.quota H.puns H.draw H.ss H.units
def yLc (Z : yZ) : Nat × yZ := if 6 ≤ Z.H.k then (2, Z) else if (yc5 B n Z).1 = 0 then (0, yZ.mk (yc5 B n Z).2 Z.mn (Z.cn ++ [(ynt B n Z.tk).w]) Z.fl (yHc Z.H (nI (yc3 B n Z).2.n))) else ((yc5 B n Z).1, Z.at (yc5 B n Z).2)
def yHf (H : yH) (W : List Int32) (u : Int32) : yH := yH.mk H.n H.k H.mi H.vo H.sh H.out H.cock H.quota H.puns H.draw W u
def yfE (Z : yZ) : Nat × yps := yEi B n (yOr B n 7) (yps.mk (ynt B n Z.tk) [] 0)
def yf2 (Z : yZ) : Nat × ytkT := ysp B n (yck 59) ((yfE B n Z).1, (yfE B n Z).2.tk)
def yLf (Z : yZ) : Nat × yZ := if Z.fl 2 = true then (2, Z) else if (yf2 B n Z).1 = 0 then (0, yZ.mk (yf2 B n Z).2 Z.mn Z.cn (yfu Z.fl 2) (yHf Z.H (yfE B n Z).2.W (nI (yfE B n Z).2.u))) else ((yf2 B n Z).1, Z.at (yf2 B n Z).2)
def yHn (H : yH) (i : Nat) (v : Int32) : yH := yH.mk H.n H.k H.mi H.vo H.sh H.out (if i = 3 then v else H.cock) (if i = 4 then v else H.quota) (if i = 5 then v else H.puns) (if i = 6 then v else H.draw) H.ss H.units
def yn2 (lo hi : Nat) (Z : yZ) : Nat × ytkT := ysp B n (yckn lo hi) (0, ynt B n Z.tk)
def yn3 (lo hi : Nat) (Z : yZ) : Nat × ytkT := ysp B n (yck 59) (yn2 B n lo hi Z)
def yLnu (i lo hi : Nat) (Z : yZ) : Nat × yZ := if Z.fl i = true then (2, Z) else if (yn3 B n lo hi Z).1 = 0 then (0, yZ.mk (yn3 B n lo hi Z).2 Z.mn Z.cn (yfu Z.fl i) (yHn Z.H i (nI (ynt B n Z.tk).n))) else ((yn3 B n lo hi Z).1, Z.at (yn3 B n lo hi Z).2)
def yLi (Z : yZ) : Nat × yZ :=
  if Z.tk.k = 100 then yLm B n Z else if Z.tk.k = 101 then yLc B n Z else if Z.tk.k = 102 then yLf B n Z else if Z.tk.k = 103 then yLnu B n 3 1 30 Z else if Z.tk.k = 104 then yLnu B n 4 0 99 Z else if Z.tk.k = 105 then yLnu B n 5 0 100 Z else if Z.tk.k = 106 then yLnu B n 6 0 999 Z else (yrf Z.tk, Z)
/-- all lines -/
def yTl : Nat → yZ → Nat × yZ
  | 0, Z => (0, Z)
  | k + 1, Z => if Z.tk.k = 1 then (0, Z) else if (yLi B n Z).1 = 0 then yTl k (yLi B n Z).2 else yLi B n Z
end LINES
/-- frame of the taking of tokens -/
def yfk (A B : zIL) : Prop := (∀ c j, ¬ (c = 1 ∧ (j = 1 ∨ j = 2 ∨ (7 ≤ j ∧ j ≤ 10))) → B.1 c j = A.1 c j) ∧ (∀ c j, ¬ (c = 1 ∧ j = 11) → B.2 c j = A.2 c j)
theorem yfk_rf {A : zIL} : yfk A A := ⟨fun _ _ _ => rfl, fun _ _ _ => rfl⟩
theorem yfk_tr {A B C : zIL} (h1 : yfk A B) (h2 : yfk B C) : yfk A C := ⟨fun c j a => (h2.1 c j a).trans (h1.1 c j a), fun c j h => (h2.2 c j h).trans (h1.2 c j h)⟩
theorem yfk_p {A B : zIL} (h : yfp A B) : yfk A B := ⟨fun c j a => h.1 c j (by omega), h.2⟩
theorem yfk_f {A B : zIL} (f : ∀ c j, ¬ (c = 1 ∧ (j = 1 ∨ j = 2)) → B.1 c j = A.1 c j) (f2 : B.2 = A.2) : yfk A B := ⟨fun c j a => f c j (by omega), fun c j _ => by rw [f2]⟩
theorem ytp_k {n : Nat} {B : Nat → Nat} {A C : zIL} (h : ytp n B A) (f : yfk A C) : ytp n B C := ⟨by rw [f.1 1 0 (by omega)]; exact h.1, fun j hj => by rw [f.1 2 j (by omega)]; exact h.2.1 j hj, fun w hw => by rw [f.2 5 w (by omega)]; exact h.2.2 w hw⟩
/-- the class at a token, or with a fault -/
def yS (B : Nat → Nat) (n : Nat) (r : Nat × ytkT) (IL : zIL) : Prop := ytp n B IL ∧ ytkO n r.2 ∧ r.1 ≤ 4 ∧ (r.1 = 0 → ytC r.2 IL ∧ IL.1 1 1 = 0) ∧ (r.1 ≠ 0 → IL.1 1 1 = nI r.1 ∧ IL.1 1 2 = nI r.2.s)
theorem yS_ne {B : Nat → Nat} {n : Nat} {r : Nat × ytkT} {IL : zIL} (h : yS B n r IL) (h0 : r.1 ≠ 0) : IL.1 1 1 ≠ 0 := by
  rw [(h.2.2.2.2 h0).1]
  exact nI_ne h0 (by have := h.2.2.1; omega)
section CLINES
variable {xs : List Int32} {d : Nat} {Q : zQ} {t u : Bool} {IL : zIL} {B : Nat → Nat} {n : Nat}
theorem c_advS {a : ytkT} (hn : n ≤ 1600) (hB : ∀ j, j < n → B j < 256) (ht : ytp n B IL) (hO : ytkO n a) (h9 : IL.1 1 9 = nI a.e) (h2 : IL.1 1 2 = -1) (h1 : IL.1 1 1 = 0) (hQ : ∀ IL', yfk IL IL' → yS B n (0, ynt B n a) IL' → Q (zFx t, IL') none) : zcall xs (d + 5) 73 (zFx t, IL) [.ref 1] Q :=
  c_advance hn hB ht hO.1.2.1 h9 h2 (fun IL' f tk => hQ IL' (yfk_p f) ⟨ytp_fr ht f, ytkO_nt hB hO, Nat.zero_le _, fun _ => ⟨tk, by rw [f.1 1 1 (by omega)]; exact h1⟩, fun z => absurd rfl z⟩)
theorem c_failS {a : ytkT} {x : Int32} {c : Nat} (hx : x = nI c) (hc : c ≠ 0) (hc4 : c ≤ 4) (ht : ytp n B IL) (hO : ytkO n a) (tk : ytC a IL) (h1 : IL.1 1 1 = 0) (hQ : ∀ IL', yfk IL IL' → yS B n (c, a) IL' → Q (zFx t, IL') none) : zcall xs (d + 1) 72 (zFx t, IL) [.ref 1, .int x] Q :=
  c_fail hx h1 tk.2.1 (fun IL' f f2 e1 e2 => hQ IL' (yfk_f f f2) ⟨ytp_k ht (yfk_f f f2), hO, hc4, fun z => absurd z hc, fun _ => ⟨e1, e2⟩⟩)
theorem c_refS {a : ytkT} (ht : ytp n B IL) (hO : ytkO n a) (tk : ytC a IL) (h1 : IL.1 1 1 = 0) (hQ : ∀ IL', yfk IL IL' → yS B n (yrf a, a) IL' → Q (zFx t, IL') none) : zcall xs (d + 2) 71 (zFx t, IL) [.ref 1] Q :=
  c_refuse tk hO.2.2.2.2.2 h1 (fun IL' f f2 e1 e2 => hQ IL' (yfk_f f f2) ⟨ytp_k ht (yfk_f f f2), hO, Nat.le_trans (yrf_2 a).1 (by decide), fun z => absurd z (yrf_2 a).2, fun _ => ⟨e1, e2⟩⟩)
theorem c_takeS {r : Nat × ytkT} {x : Int32} {c : Nat} (hn : n ≤ 1600) (hB : ∀ j, j < n → B j < 256) (hx : x = nI c) (hc : c ≤ 117) (h : yS B n r IL) (hQ : ∀ IL', yfk IL IL' → yS B n (ysp B n (yck c) r) IL' → Q (zFx t, IL') none) : zcall xs (d + 6) 68 (zFx t, IL) [.ref 1, .int x] Q := by
  unfold ysp at hQ
  by_cases h0 : r.1 = 0
  · rw [if_pos h0] at hQ
    obtain ⟨tk, h1⟩ := h.2.2.2.1 h0
    have kk := h.2.1.2.2.2.2.2
    unfold yck at hQ
    refine sX5_take t x IL (zdec (fun _ => zkn tk.1 hx (by omega) (by omega) (fun e => c_advS hn hB h.1 h.2.1 tk.2.2.1 tk.2.2.2.2.2 h1 (fun IL' f g => kV (hQ IL' f ?_))) (fun e => c_refS (d := d + 3) h.1 h.2.1 tk h1 (fun IL' f g => kV (hQ IL' f ?_)))) (fun z => absurd h1 z))
    · rw [if_pos e, if_pos rfl]; exact g
    · rw [if_neg e, if_neg (yrf_2 _).2]; exact g
  · rw [if_neg h0] at hQ
    exact c_takeX (yS_ne h h0) (hQ IL yfk_rf h)
theorem c_takeNS {r : Nat × ytkT} {x y : Int32} {lo hi : Nat} (hn : n ≤ 1600) (hB : ∀ j, j < n → B j < 256) (hx : x = nI lo) (hy : y = nI hi) (hlo : lo ≤ 10000) (hhi : hi ≤ 10000) (h : yS B n r IL) (hQ : ∀ IL' v, yfk IL IL' → yS B n (ysp B n (yckn lo hi) r) IL' → ((ysp B n (yckn lo hi) r).1 = 0 → v = nI r.2.n) → Q (zFx t, IL') (some (.int v))) : zcall xs (d + 6) 69 (zFx t, IL) [.ref 1, .int x, .int y] Q := by
  unfold ysp at hQ
  by_cases h0 : r.1 = 0
  · rw [if_pos h0] at hQ
    obtain ⟨tk, h1⟩ := h.2.2.2.1 h0
    have kk := h.2.1.2.2.2.2.2
    unfold yckn at hQ
    refine sX5_takeNumber t x y IL (zdec (fun _ => zkn (c := 2) tk.1 rfl (by omega) (by omega) (fun e => ?_) (fun e => c_refS (d := d + 3) h.1 h.2.1 tk h1 (fun IL' f g => kV (hQ IL' x f ?_ ?_)))) (fun z => absurd h1 z))
    · have e10 := tk.2.2.2.1 e
      have nn := h.2.1.2.1 e
      rw [if_pos e] at hQ
      refine zln e10 hx (by omega) (by omega) (fun q => c_failS (c := 4) (d := d + 4) rfl (by decide) (by decide) h.1 h.2.1 tk h1 (fun IL' f g => kV (hQ IL' x f ?_ ?_))) (fun q => zln hy e10 (by omega) (by omega) (fun q2 => c_failS (c := 4) (d := d + 4) rfl (by decide) (by decide) h.1 h.2.1 tk h1 (fun IL' f g => kV (hQ IL' x f ?_ ?_))) (fun q2 => c_advS hn hB h.1 h.2.1 tk.2.2.1 tk.2.2.2.2.2 h1 (fun IL' f g => kV (hQ IL' _ f ?_ ?_))))
      · rw [if_neg (show ¬ (lo ≤ r.2.n ∧ r.2.n ≤ hi) by omega), if_neg (by decide)]; exact g
      · rw [if_neg (show ¬ (lo ≤ r.2.n ∧ r.2.n ≤ hi) by omega), if_neg (by decide)]; exact fun z => absurd (show (4 : Nat) = 0 from z) (by decide)
      · rw [if_neg (show ¬ (lo ≤ r.2.n ∧ r.2.n ≤ hi) by omega), if_neg (by decide)]; exact g
      · rw [if_neg (show ¬ (lo ≤ r.2.n ∧ r.2.n ≤ hi) by omega), if_neg (by decide)]; exact fun z => absurd (show (4 : Nat) = 0 from z) (by decide)
      · rw [if_pos (show lo ≤ r.2.n ∧ r.2.n ≤ hi by omega), if_pos rfl]; exact g
      · exact fun _ => e10
    · rw [if_neg e, if_neg (yrf_2 _).2]; exact g
    · rw [if_neg e, if_neg (yrf_2 _).2]; exact fun z => absurd z (yrf_2 _).2
  · rw [if_neg h0] at hQ
    exact sX5_takeNumber t x y IL (zdec (fun z => absurd z (yS_ne h h0)) (fun _ => hQ IL x yfk_rf h (fun z => absurd z h0)))
/-- names: those so far, and the one that is told -/
theorem c_takeN3 {r : Nat × ytkT} {L : List (List Nat)} {m : Nat} (hn : n ≤ 1600) (hB : ∀ j, j < n → B j < 256) (hm : m < 7) (hl : L.length = m) (hw : ∀ w, w ∈ L → ywd1 w) (hL : ∀ j, j < m → IL.2 3 j = y5 (L.getD j [])) (h : yS B n r IL) (h0 : r.1 = 0) (hQ : ∀ IL', (∀ c j, ¬ (c = 1 ∧ (j = 1 ∨ j = 2 ∨ (7 ≤ j ∧ j ≤ 10))) → IL'.1 c j = IL.1 c j) → (∀ c j, ¬ (c = 1 ∧ j = 11) → ¬ (c = 3 ∧ j = m) → IL'.2 c j = IL.2 c j) → yS B n (ysp B n (yckw L) r) IL' → ((ysp B n (yckw L) r).1 = 0 → IL'.2 3 m = y5 r.2.w) → Q (zFx t, IL') none) : zcall xs (d + 6) 70 (zFx t, IL) [.ref 1, .ref 3, .int (nI m)] Q := by
  obtain ⟨tk, h1⟩ := h.2.2.2.1 h0
  have kk := h.2.1.2.2.2.2.2
  unfold ysp at hQ
  rw [if_pos h0] at hQ
  unfold yckw at hQ
  refine sX5_takeName_3 t _ IL (zkn (c := 3) tk.1 rfl (by omega) (by omega) (fun e => ?_) (fun e => c_refS (d := d + 3) h.1 h.2.1 tk h1 (fun IL' f g => kV (hQ IL' f.1 (fun c j z _ => f.2 c j z) ?_ ?_))))
  · rw [if_pos e] at hQ
    have e11 := tk.2.2.2.2.1 (Or.inl e)
    have rw1 := h.2.1.2.2.1 (Or.inl e)
    have main : ∀ (k i : Nat), i + k = m → (∀ j, j < i → L.getD j [] ≠ r.2.w) → gX5_takeName xs (d + 5) Q 15 [.ref 1, .ref 3, .int (nI m), .int (nI i)] [] (zFx t, IL) := by
      intro k
      induction k with
      | zero =>
        intro i hi hno
        have nin : ¬ r.2.w ∈ L := fun q => by
          obtain ⟨j, hj, ej⟩ := List.mem_iff_getElem.mp q
          refine hno j (by omega) ?_
          rw [List.getD_eq_getElem?_getD, List.getElem?_eq_getElem hj]
          exact ej
        rw [if_neg nin, if_pos rfl] at hQ
        refine sX5_takeName_3_15 t _ _ IL (zd_f (n := m) rfl (by omega) (by omega) (zdec (fun z => absurd z (nI_pos (by omega))) (fun _ => zd_t (n := 7) rfl hm (by decide) (zix_n hm (by decide) ?_))))
        rw [ycl (by omega), e11]
        have w2 : ∀ c j, ¬ (c = 3 ∧ j = m) → (zwl IL 3 m (y5 r.2.w)).2 c j = IL.2 c j := fun c j z => by
          show zup IL.2 3 m _ c j = _
          by_cases e3 : c = 3
          · subst e3
            rw [zup_at, if_neg (by omega)]
          · rw [zup_ne e3]
        have tpJ : ytp n B (zwl IL 3 m (y5 r.2.w)) := ⟨h.1.1, h.1.2.1, fun w hw => by rw [w2 5 w (by omega)]; exact h.1.2.2 w hw⟩
        refine c_advS hn hB tpJ h.2.1 tk.2.2.1 tk.2.2.2.2.2 h1 (fun IL' f g => kV (hQ IL' f.1 (fun c j z1 z2 => (f.2 c j z1).trans (w2 c j z2)) g (fun _ => ?_)))
        rw [f.2 3 m (by omega)]
        exact zwl_at
      | succ k ih =>
        intro i hi hno
        refine sX5_takeName_3_15 t _ _ IL (zd_t (n := m) rfl (by omega) (by omega) (zd_t (n := 7) rfl (by omega) (by decide) (zix_n (by omega) (by decide) ?_)))
        rw [ycl (by omega), e11, hL i (by omega)]
        refine zdec (fun z => ?_) (fun z => ?_)
        · have li : i < L.length := by omega
          have lw : ywd1 (L.getD i []) := hw _ (by
            rw [List.getD_eq_getElem?_getD, List.getElem?_eq_getElem li]
            exact List.getElem_mem li)
          have ew := y5_inj lw rw1 (lg_0.mp z)
          have yin : r.2.w ∈ L := by
            rw [← ew, List.getD_eq_getElem?_getD, List.getElem?_eq_getElem li]
            exact List.getElem_mem li
          rw [if_pos yin, if_neg (by decide)] at hQ
          exact c_failS (c := 3) (d := d + 4) rfl (by decide) (by decide) h.1 h.2.1 tk h1 (fun IL' f g => kV (hQ IL' f.1 (fun c j z _ => f.2 c j z) g (fun z => absurd (show (3 : Nat) = 0 from z) (by decide))))
        · rw [nI_1]
          refine ih (i + 1) (by omega) (fun j hj => ?_)
          by_cases ej : j = i
          · subst ej
            exact fun q => z (lg_0.mpr (by rw [q]))
          · exact hno j (by omega)
    exact main m 0 (by omega) (fun j hj => by omega)
  · rw [if_neg e, if_neg (yrf_2 _).2]; exact g
  · rw [if_neg e, if_neg (yrf_2 _).2]; exact fun z => absurd z (yrf_2 _).2
theorem c_takeN4 {r : Nat × ytkT} {L : List (List Nat)} {m : Nat} (hn : n ≤ 1600) (hB : ∀ j, j < n → B j < 256) (hm : m < 6) (hl : L.length = m) (hw : ∀ w, w ∈ L → ywd1 w) (hL : ∀ j, j < m → IL.2 4 j = y5 (L.getD j [])) (h : yS B n r IL) (h0 : r.1 = 0) (hQ : ∀ IL', (∀ c j, ¬ (c = 1 ∧ (j = 1 ∨ j = 2 ∨ (7 ≤ j ∧ j ≤ 10))) → IL'.1 c j = IL.1 c j) → (∀ c j, ¬ (c = 1 ∧ j = 11) → ¬ (c = 4 ∧ j = m) → IL'.2 c j = IL.2 c j) → yS B n (ysp B n (yckw L) r) IL' → ((ysp B n (yckw L) r).1 = 0 → IL'.2 4 m = y5 r.2.w) → Q (zFx t, IL') none) : zcall xs (d + 6) 70 (zFx t, IL) [.ref 1, .ref 4, .int (nI m)] Q := by
  obtain ⟨tk, h1⟩ := h.2.2.2.1 h0
  have kk := h.2.1.2.2.2.2.2
  unfold ysp at hQ
  rw [if_pos h0] at hQ
  unfold yckw at hQ
  refine sX5_takeName_4 t _ IL (zkn (c := 3) tk.1 rfl (by omega) (by omega) (fun e => ?_) (fun e => c_refS (d := d + 3) h.1 h.2.1 tk h1 (fun IL' f g => kV (hQ IL' f.1 (fun c j z _ => f.2 c j z) ?_ ?_))))
  · rw [if_pos e] at hQ
    have e11 := tk.2.2.2.2.1 (Or.inl e)
    have rw1 := h.2.1.2.2.1 (Or.inl e)
    have main : ∀ (k i : Nat), i + k = m → (∀ j, j < i → L.getD j [] ≠ r.2.w) → gX5_takeName xs (d + 5) Q 15 [.ref 1, .ref 4, .int (nI m), .int (nI i)] [] (zFx t, IL) := by
      intro k
      induction k with
      | zero =>
        intro i hi hno
        have nin : ¬ r.2.w ∈ L := fun q => by
          obtain ⟨j, hj, ej⟩ := List.mem_iff_getElem.mp q
          refine hno j (by omega) ?_
          rw [List.getD_eq_getElem?_getD, List.getElem?_eq_getElem hj]
          exact ej
        rw [if_neg nin, if_pos rfl] at hQ
        refine sX5_takeName_4_15 t _ _ IL (zd_f (n := m) rfl (by omega) (by omega) (zdec (fun z => absurd z (nI_pos (by omega))) (fun _ => zd_t (n := 6) rfl hm (by decide) (zix_n hm (by decide) ?_))))
        rw [ycl (by omega), e11]
        have w2 : ∀ c j, ¬ (c = 4 ∧ j = m) → (zwl IL 4 m (y5 r.2.w)).2 c j = IL.2 c j := fun c j z => by
          show zup IL.2 4 m _ c j = _
          by_cases e3 : c = 4
          · subst e3
            rw [zup_at, if_neg (by omega)]
          · rw [zup_ne e3]
        have tpJ : ytp n B (zwl IL 4 m (y5 r.2.w)) := ⟨h.1.1, h.1.2.1, fun w hw => by rw [w2 5 w (by omega)]; exact h.1.2.2 w hw⟩
        refine c_advS hn hB tpJ h.2.1 tk.2.2.1 tk.2.2.2.2.2 h1 (fun IL' f g => kV (hQ IL' f.1 (fun c j z1 z2 => (f.2 c j z1).trans (w2 c j z2)) g (fun _ => ?_)))
        rw [f.2 4 m (by omega)]
        exact zwl_at
      | succ k ih =>
        intro i hi hno
        refine sX5_takeName_4_15 t _ _ IL (zd_t (n := m) rfl (by omega) (by omega) (zd_t (n := 6) rfl (by omega) (by decide) (zix_n (by omega) (by decide) ?_)))
        rw [ycl (by omega), e11, hL i (by omega)]
        refine zdec (fun z => ?_) (fun z => ?_)
        · have li : i < L.length := by omega
          have lw : ywd1 (L.getD i []) := hw _ (by
            rw [List.getD_eq_getElem?_getD, List.getElem?_eq_getElem li]
            exact List.getElem_mem li)
          have ew := y5_inj lw rw1 (lg_0.mp z)
          have yin : r.2.w ∈ L := by
            rw [← ew, List.getD_eq_getElem?_getD, List.getElem?_eq_getElem li]
            exact List.getElem_mem li
          rw [if_pos yin, if_neg (by decide)] at hQ
          exact c_failS (c := 3) (d := d + 4) rfl (by decide) (by decide) h.1 h.2.1 tk h1 (fun IL' f g => kV (hQ IL' f.1 (fun c j z _ => f.2 c j z) g (fun z => absurd (show (3 : Nat) = 0 from z) (by decide))))
        · rw [nI_1]
          refine ih (i + 1) (by omega) (fun j hj => ?_)
          by_cases ej : j = i
          · subst ej
            exact fun q => z (lg_0.mpr (by rw [q]))
          · exact hno j (by omega)
    exact main m 0 (by omega) (fun j hj => by omega)
  · rw [if_neg e, if_neg (yrf_2 _).2]; exact g
  · rw [if_neg e, if_neg (yrf_2 _).2]; exact fun z => absurd z (yrf_2 _).2
end CLINES
