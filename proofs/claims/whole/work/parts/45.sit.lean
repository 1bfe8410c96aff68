/-! a READING: what it makes of a State, and that the class does so -/
theorem kI {F : zF} {f : zIL → Int32 → Prop} {IL : zIL} {x : Int32} (h : f IL x) : zkI F f (F, IL) (some (.int x)) := ⟨rfl, h⟩
theorem kV {F : zF} {f : zIL → Prop} {IL : zIL} (h : f IL) : zkV F f (F, IL) none := ⟨rfl, h⟩
theorem kA {F : zF} {f : zIL → Nat → Prop} {IL : zIL} {x : Nat} (h : f IL x) : zkA F f (F, IL) (some (.ref x)) := ⟨rfl, h⟩
theorem z0 {A B : Prop} (a : A) : zif2 (decide ((0 : Int32) = 0)) A B := a
theorem z1 {A B : Prop} (b : B) : zif2 (decide ((1 : Int32) = 0)) A B := b
theorem zbb {b : Bool} {A B : Prop} (h0 : b = false → A) (h1 : b = true → B) : zif2 (decide ((if b then (1 : Int32) else 0) = 0)) A B := by
  cases b
  · exact h0 rfl
  · exact h1 rfl
theorem zbi {b : Bool} {P : Prop} (h : P) : zbo (if b then (1 : Int32) else 0) P := by
  cases b
  · exact h
  · exact h
def yset (p : Nat → Bool) : Nat → Int32
  | 0 => 0
  | n + 1 => if p n then yset p n ||| (1 <<< (nI n &&& 31)) else yset p n
theorem b_one {m : Nat} (hm : m < 32) {i : Nat} (hi : i < 32) : bt (1 <<< (nI m &&& 31)) i = decide (i = m) := by
  rw [b_shl m hm 1 hi]
  by_cases h : m ≤ i
  · rw [b_1 (i - m) (by omega), decide_eq_true h, Bool.true_and]
    by_cases e : i = m
    · rw [decide_eq_true e, decide_eq_true (by omega)]
    · rw [decide_eq_false e, decide_eq_false (by omega)]
  · rw [decide_eq_false h, Bool.false_and, decide_eq_false (by omega)]
theorem b_set {p : Nat → Bool} : ∀ (n : Nat), n ≤ 32 → ∀ i, i < 32 → bt (yset p n) i = (decide (i < n) && p i)
  | 0, _, i, _ => by rw [yset, b_0]; rfl
  | n + 1, hn, i, hi => by
    have ih := b_set (p := p) n (by omega) i hi
    rw [yset]
    by_cases e : i = n
    · subst e
      cases hp : p i
      · rw [if_neg (by decide), ih, hp, Bool.and_false, Bool.and_false]
      · rw [if_pos rfl, b_or, b_one (by omega) hi, decide_eq_true rfl, Bool.or_true, decide_eq_true (by omega)]; rfl
    · have q : decide (i < n + 1) = decide (i < n) := by
        by_cases h : i < n
        · rw [decide_eq_true h, decide_eq_true (by omega)]
        · rw [decide_eq_false h, decide_eq_false (by omega)]
      cases hp : p n
      · rw [if_neg (by decide), ih, q]
      · rw [if_pos rfl, b_or, b_one (by omega) hi, decide_eq_false e, Bool.or_false, ih, q]
theorem y_all : ∀ n, n ≤ 7 → ∀ i, i < 32 → bt ((1 <<< (nI n &&& 31)) - 1) i = decide (i < n) := by decide +kernel
def ymi (H : yH) (mo : Int32) (m : Nat) : Int32 := if mo = -1 then H.mi m else mo
def yre (S : Nat → Int32) : Int32 := ymc (S 8) 7 0 0
def yno (H : yH) (mo q fa : Int32) (S : Nat → Int32) (m : Nat) : Int32 := ynw (S m) (zwv H.ss q (ymi H mo m) (H.vo m) (S m) fa (yre S))
def yoff (H : yH) (mo q fa : Int32) (S : Nat → Int32) (m : Nat) : Bool := bt (S 7) m && !decide (yno H mo q fa S m < H.cock)
def yfor (H : yH) (mo q fa : Int32) (S : Nat → Int32) (m : Nat) : Bool := !bt (S 7) m || (decide (yno H mo q fa S m < H.cock) && decide (2 * yno H mo q fa S m < H.cock))
def ynv (H : yH) (mo q fa : Int32) (S : Nat → Int32) (j : Nat) : Int32 := if yno H mo q fa S j < H.cock then yno H mo q fa S j else 0
def yS1 (H : yH) (mo q fa : Int32) (S : Nat → Int32) (n : Nat) (j : Nat) : Int32 := if j < n ∧ bt (S 7) j = true then ynv H mo q fa S j else S j
def ypas (H : yH) (mo q fa : Int32) (S : Nat → Int32) : Bool := decide (yset (yoff H mo q fa S) H.n = 0) && !decide (zvs H.vo (yset (yfor H mo q fa S) H.n) H.n 0 0 < H.quota)
def ysit (H : yH) (mo q fa : Int32) (c : Nat) (S : Nat → Int32) (j : Nat) : Int32 := if j = 8 then S 8 ||| (1 <<< (nI c &&& 31)) else if j = 9 then (if ypas H mo q fa S then S 9 ||| (1 <<< (nI c &&& 31)) else S 9) else yS1 H mo q fa S H.n j
theorem ysit_low (H : yH) (mo q fa : Int32) (c : Nat) (S : Nat → Int32) {j : Nat} (h8 : j ≠ 8) (h9 : j ≠ 9) : ysit H mo q fa c S j = yS1 H mo q fa S H.n j := by
  unfold ysit
  rw [if_neg h8, if_neg h9]
theorem yor0 (x : Int32) : x ||| 0 = x := b_ext (fun i _ => by rw [b_or, b_0, Bool.or_false])
theorem zH_le (u : Bool) : zH u ≤ 14 := by cases u <;> decide
theorem zH_ge (u : Bool) : 6 ≤ zH u := by cases u <;> decide
theorem yS1_s (H : yH) (mo q fa : Int32) (S : Nat → Int32) (i j : Nat) : yS1 H mo q fa S (i + 1) j = if j = i ∧ bt (S 7) i = true then ynv H mo q fa S i else yS1 H mo q fa S i j := by
  unfold yS1
  by_cases e : j = i
  · subst e
    by_cases b : bt (S 7) j = true
    · rw [if_pos ⟨by omega, b⟩, if_pos ⟨rfl, b⟩]
    · rw [if_neg (fun z => b z.2), if_neg (fun z => b z.2), if_neg (fun z => b z.2)]
  · rw [if_neg (c := j = i ∧ _) (fun z => e z.1)]
    by_cases b : j < i
    · by_cases c : bt (S 7) j = true
      · rw [if_pos ⟨by omega, c⟩, if_pos ⟨b, c⟩]
      · rw [if_neg (fun z => c z.2), if_neg (fun z => c z.2)]
    · rw [if_neg (fun z => by have := z.1; omega), if_neg (fun z => b z.1)]
theorem yCH.zf {u : Bool} {H : yH} {A B : zIL} {s : Nat} (h : yCH u H A) (h22 : 22 ≤ s) (hf : zfr [s, s + 1, zH u + 5, zH u + 7] A B) : yCH u H B := h.fr (fun i h8 h5 h7 => hf.1 _ (by
  have := zH_le u
  simp only [List.mem_cons, List.not_mem_nil, or_false]
  omega))
section SIT
variable {xs : List Int32} {d : Nat} {Q : zQ} {t u : Bool} {IL IL0 : zIL} {H : yH} {s c : Nat} {mo q fa : Int32} {S : Nat → Int32}
theorem l_sitAs (hs : zSt t s) (h22 : 22 ≤ s) (hH : yOK H) (hfa : fa = 0 ∨ fa = 1) (hC : yCH u H IL0) (hQ : ∀ IL', zfr [s, s + 1, zH u + 5, zH u + 7] IL0 IL' → yCS s (ysit H mo q fa c S) IL' → IL'.1 s 5 = yset (yoff H mo q fa S) H.n → IL'.1 s 6 = yset (yfor H mo q fa S) H.n → Q (zFx t, IL') (some (.int (if ypas H mo q fa S then 1 else 0)))) : ∀ (k i : Nat) (IL : zIL) (w8 w9 : Value), i + k = H.n → zfr [s, s + 1, zH u + 5, zH u + 7] IL0 IL → (∀ j, j < 7 → IL.1 (s + 1) j = yS1 H mo q fa S i j) → IL.1 s 1 = S 7 → IL.1 s 2 = S 8 → IL.1 s 3 = S 9 → IL.1 s 4 = S 10 → IL.1 s 5 = yset (yoff H mo q fa S) i → (∀ j, j < 32 → bt (IL.1 s 6) j = ((decide (j < i) && yfor H mo q fa S j) || (decide (i ≤ j) && (decide (j < H.n) && !bt (S 7) j)))) → gX6_sitAs xs (d + 3) Q 32 [.ref s, .ref (zH u), .int (nI c), .int q, .int mo, .int fa, .int (yre S), .int (nI i), w8, w9] [] (zFx t, IL)
  | 0, i, IL, w8, w9, hi, fr, hn, h1, h2, h3, h4, h5, h6 => by
    have n7 := hH.n7
    have zl := zH_le u
    have hCI : yCH u H IL := hC.zf h22 fr
    have ms : s ∈ [s, s + 1, zH u + 5, zH u + 7] := List.mem_cons_self
    refine sX6_sitAs_32 t u s _ _ _ _ _ _ w8 w9 IL hs (zdec (fun h => absurd h (by rw [hCI.mem]; exact nI_nlt (by omega) (by omega))) (fun _ => ?_))
    have ei : i = H.n := by omega
    subst ei
    have e6 : IL.1 s 6 = yset (yfor H mo q fa S) H.n := b_ext (fun j hj => by
      rw [h6 j hj, b_set H.n (by omega) j hj]
      by_cases e : j < H.n
      · rw [decide_eq_false (p := H.n ≤ j) (by omega), Bool.false_and, Bool.or_false]
      · rw [decide_eq_false e, Bool.false_and, Bool.false_and, Bool.and_false, Bool.or_false])
    have g5 : ∀ v, (zwi IL s 2 v).1 s 5 = IL.1 s 5 := fun v => by rw [zwi_at, if_neg (by decide)]
    have g6 : ∀ v, (zwi IL s 2 v).1 s 6 = IL.1 s 6 := fun v => by rw [zwi_at, if_neg (by decide)]
    have g3 : ∀ v, (zwi IL s 2 v).1 s 3 = IL.1 s 3 := fun v => by rw [zwi_at, if_neg (by decide)]
    have fin : ∀ v, v = (if ypas H mo q fa S then S 9 ||| (1 <<< (nI c &&& 31)) else S 9) → Q (zFx t, zwi (zwi IL s 2 (S 8 ||| (1 <<< (nI c &&& 31)))) s 3 v) (some (.int (if ypas H mo q fa S then 1 else 0))) := by
      intro v hv
      refine hQ _ (zfr_tr fr (zfr_tr (zfr_wi ms) (zfr_wi ms))) ?_ ?_ ?_
      · unfold yCS
        refine ⟨fun j hj => ?_, ?_, ?_, ?_, ?_⟩
        · rw [zwi_ne (by omega), zwi_ne (by omega), hn j hj]
          unfold ysit
          rw [if_neg (by omega), if_neg (by omega)]
        · rw [zwi_at, if_neg (by decide), zwi_at, if_neg (by decide), h1]
          unfold ysit yS1
          rw [if_neg (by decide), if_neg (by decide), if_neg (fun z => by have := z.1; omega)]
        · rw [zwi_at, if_neg (by decide), zwi_at, if_pos rfl]
          unfold ysit
          rw [if_pos rfl]
        · rw [zwi_at, if_pos rfl, hv]
          rfl
        · rw [zwi_at, if_neg (by decide), zwi_at, if_neg (by decide), h4]
          unfold ysit yS1
          rw [if_neg (by decide), if_neg (by decide), if_neg (fun z => by have := z.1; omega)]
      · rw [zwi_at, if_neg (by decide), g5, h5]
      · rw [zwi_at, if_neg (by decide), g6, e6]
    rw [g5, g6, h2, h5, e6]
    refine zdec (fun z => ?_) (fun z => ?_)
    · have hC2 : yCH u H (zwi IL s 2 (S 8 ||| (1 <<< (nI c &&& 31)))) := hC.zf h22 (zfr_tr fr (zfr_wi ms))
      refine c_votesOf (n := H.n) (vo := H.vo) hC2.mem (by omega) hC2.vo (kI ?_)
      rw [hC2.quota]
      refine zdec (fun w => ?_) (fun w => ?_)
      · refine sX6_sitAs_215 t u s _ _ _ _ _ _ _ _ _ hs ?_
        have hp : ypas H mo q fa S = false := by unfold ypas; rw [decide_eq_true z, decide_eq_true w]; rfl
        have := fin (S 9) (by rw [hp]; rfl)
        rw [g3, h3, yor0]
        rw [hp] at this
        exact this
      · have hp : ypas H mo q fa S = true := by unfold ypas; rw [decide_eq_true z, decide_eq_false w]; rfl
        have := fin (S 9 ||| (1 <<< (nI c &&& 31))) (by rw [hp]; rfl)
        rw [g3, h3]
        rw [hp] at this
        exact this
    · refine sX6_sitAs_215 t u s _ _ _ _ _ _ _ _ _ hs ?_
      have hp : ypas H mo q fa S = false := by unfold ypas; rw [decide_eq_false z]; rfl
      have := fin (S 9) (by rw [hp]; rfl)
      rw [g3, h3, yor0]
      rw [hp] at this
      exact this
  | k + 1, i, IL, w8, w9, hi, fr, hn, h1, h2, h3, h4, h5, h6 => by
    have n7 := hH.n7
    have zl := zH_le u
    have hCI : yCH u H IL := hC.zf h22 fr
    have ms : s ∈ [s, s + 1, zH u + 5, zH u + 7] := List.mem_cons_self
    have ms1 : s + 1 ∈ [s, s + 1, zH u + 5, zH u + 7] := by simp
    have im : vp_in (nI i) 7 := vp_in_nI (by omega) (by omega)
    have cm : (nI i).toNatClampNeg = i := nI_clamp (by omega)
    refine sX6_sitAs_32 t u s _ _ _ _ _ _ w8 w9 IL hs (zdec (fun _ => ?_) (fun h => absurd (by rw [hCI.mem]; exact nI_lt (by omega) (by omega)) h))
    rw [h1]
    refine c_has (by omega) (fun hb => kI (z0 ?_)) (fun hb => kI (z1 ?_))
    · show gX6_sitAs xs (d + 3) Q 171 [.ref s, .ref (zH u), .int (nI c), .int q, .int mo, .int fa, .int (yre S), .int (nI i), w8, w9] [] (zFx t, IL)
      refine sX6_sitAs_171 t u s _ _ _ _ _ _ w8 w9 IL hs ?_
      rw [nI_1]
      refine l_sitAs hs h22 hH hfa hC hQ k (i + 1) IL w8 w9 (by omega) fr (fun j hj => ?_) h1 h2 h3 h4 ?_ (fun j hj => ?_)
      · rw [hn j hj, yS1_s, if_neg (fun z => by rw [hb] at z; cases z.2)]
      · rw [h5, yset, if_neg (by unfold yoff; rw [hb]; simp)]
      · rw [h6 j hj]
        by_cases e : j = i
        · subst e
          rw [decide_eq_false (p := j < j) (by omega), decide_eq_true (p := j ≤ j) (by omega), decide_eq_true (p := j < j + 1) (by omega), decide_eq_false (p := j + 1 ≤ j) (by omega), decide_eq_true (p := j < H.n) (by omega), hb]
          unfold yfor
          rw [hb]
          rfl
        · by_cases e2 : j < i
          · rw [decide_eq_true e2, decide_eq_true (p := j < i + 1) (by omega), decide_eq_false (p := i ≤ j) (by omega), decide_eq_false (p := i + 1 ≤ j) (by omega)]
          · rw [decide_eq_false e2, decide_eq_false (p := j < i + 1) (by omega), decide_eq_true (p := i ≤ j) (by omega), decide_eq_true (p := i + 1 ≤ j) (by omega)]
    · have no : IL.1 (s + 1) i = S i := by rw [hn i (by omega)]; unfold yS1; rw [if_neg (fun z => by have := z.1; omega)]
      -- behind the winding
      have core : ∀ (x8 : Int32) (IL2 : zIL), zfr [zH u + 5, zH u + 7] IL IL2 → zif2 (decide ((yno H mo q fa S i : Int32) < (IL2.1 (zH u) 6))) (zif2 (decide ((2 * yno H mo q fa S i : Int32) < (IL2.1 (zH u) 6))) (gX6_sitAs xs (d + 3) Q 162 [.ref s, .ref (zH u), .int (nI c), .int q, .int mo, .int fa, .int (yre S), .int (nI i), .int x8, .int (yno H mo q fa S i)] [] (zFx t, zwi IL2 s 6 ((IL2.1 s 6) ||| (1 <<< (nI i &&& 31))))) (gX6_sitAs xs (d + 3) Q 162 [.ref s, .ref (zH u), .int (nI c), .int q, .int mo, .int fa, .int (yre S), .int (nI i), .int x8, .int (yno H mo q fa S i)] [] (zFx t, IL2))) (gX6_sitAs xs (d + 3) Q 162 [.ref s, .ref (zH u), .int (nI c), .int q, .int mo, .int fa, .int (yre S), .int (nI i), .int x8, .int 0] [] (zFx t, zwi IL2 s 5 ((IL2.1 s 5) ||| (1 <<< (nI i &&& 31))))) := by
        intro x8 IL2 f2
        have fr2 : zfr [s, s + 1, zH u + 5, zH u + 7] IL0 IL2 := zfr_tr fr (zfr_le f2 (fun c hc => List.mem_cons_of_mem _ (List.mem_cons_of_mem _ hc)))
        have hC2 : yCH u H IL2 := hC.zf h22 fr2
        have es : IL2.1 s = IL.1 s := f2.1 _ (by simp only [List.mem_cons, List.not_mem_nil, or_false]; omega)
        have es1 : IL2.1 (s + 1) = IL.1 (s + 1) := f2.1 _ (by simp only [List.mem_cons, List.not_mem_nil, or_false]; omega)
        have on : ∀ (IL3 : zIL) (v : Int32), zfr [s, s + 1, zH u + 5, zH u + 7] IL0 IL3 → IL3.1 (s + 1) = IL.1 (s + 1) → IL3.1 s 1 = S 7 → IL3.1 s 2 = S 8 → IL3.1 s 3 = S 9 → IL3.1 s 4 = S 10 → v = ynv H mo q fa S i → IL3.1 s 5 = yset (yoff H mo q fa S) (i + 1) → (∀ j, j < 32 → bt (IL3.1 s 6) j = ((decide (j < i + 1) && yfor H mo q fa S j) || (decide (i + 1 ≤ j) && (decide (j < H.n) && !bt (S 7) j)))) → gX6_sitAs xs (d + 3) Q 162 [.ref s, .ref (zH u), .int (nI c), .int q, .int mo, .int fa, .int (yre S), .int (nI i), .int x8, .int v] [] (zFx t, IL3) := by
          intro IL3 v f3 e1 k1 k2 k3 k4 hv k5 k6
          refine sX6_sitAs_162 t u s _ _ _ _ _ _ _ _ IL3 hs (zix_i im ?_)
          rw [cm]
          refine sX6_sitAs_171 t u s _ _ _ _ _ _ _ _ _ hs ?_
          rw [nI_1]
          have q0 : (zwi IL3 (s + 1) i v).1 s = IL3.1 s := zwi_ne (by omega)
          refine l_sitAs hs h22 hH hfa hC hQ k (i + 1) _ _ _ (by omega) (zfr_tr f3 (zfr_wi ms1)) (fun j hj => ?_) (by rw [q0, k1]) (by rw [q0, k2]) (by rw [q0, k3]) (by rw [q0, k4]) (by rw [q0, k5]) (by rw [q0]; exact k6)
          rw [zwi_at, yS1_s]
          by_cases e : j = i
          · rw [if_pos e, if_pos ⟨e, hb⟩, hv]
          · rw [if_neg e, if_neg (fun z => e z.1), e1, hn j hj]
        -- the bit of FOR
        have b6 : ∀ (x : Int32), (∀ j, j < 32 → bt x j = (bt (IL.1 s 6) j || (decide (j = i) && yfor H mo q fa S i))) → ∀ j, j < 32 → bt x j = ((decide (j < i + 1) && yfor H mo q fa S j) || (decide (i + 1 ≤ j) && (decide (j < H.n) && !bt (S 7) j))) := by
          intro x hx j hj
          rw [hx j hj, h6 j hj]
          by_cases e : j = i
          · subst e
            rw [decide_eq_false (p := j < j) (by omega), decide_eq_true (p := j ≤ j) (by omega), decide_eq_true (p := j < j + 1) (by omega), decide_eq_false (p := j + 1 ≤ j) (by omega), decide_eq_true (p := j < H.n) (by omega), hb, decide_eq_true (p := j = j) rfl]
            simp
          · rw [decide_eq_false e]
            by_cases e2 : j < i
            · rw [decide_eq_true e2, decide_eq_true (p := j < i + 1) (by omega), decide_eq_false (p := i ≤ j) (by omega), decide_eq_false (p := i + 1 ≤ j) (by omega)]
              simp
            · rw [decide_eq_false e2, decide_eq_false (p := j < i + 1) (by omega), decide_eq_true (p := i ≤ j) (by omega), decide_eq_true (p := i + 1 ≤ j) (by omega)]
              simp
        rw [hC2.cock, es]
        refine zdec (fun z => zdec (fun w => ?_) (fun w => ?_)) (fun z => ?_)
        · have q1 : ∀ j, j ≠ 6 → (zwi IL2 s 6 (IL.1 s 6 ||| (1 <<< (nI i &&& 31)))).1 s j = IL.1 s j := fun j hj => by rw [zwi_at, if_neg hj, es]
          refine on _ _ (zfr_tr fr2 (zfr_wi ms)) (by rw [zwi_ne (by omega), es1]) (by rw [q1 1 (by decide), h1]) (by rw [q1 2 (by decide), h2]) (by rw [q1 3 (by decide), h3]) (by rw [q1 4 (by decide), h4]) (by unfold ynv; rw [if_pos z]) ?_ (b6 _ (fun j hj => ?_))
          · rw [q1 5 (by decide), h5, yset, if_neg (by unfold yoff; rw [decide_eq_true z]; simp)]
          · rw [zwi_at, if_pos rfl, b_or, b_one (by omega) hj]
            unfold yfor
            rw [decide_eq_true z, decide_eq_true w]
            simp
        · refine on _ _ fr2 es1 (by rw [es, h1]) (by rw [es, h2]) (by rw [es, h3]) (by rw [es, h4]) (by unfold ynv; rw [if_pos z]) ?_ (b6 _ (fun j hj => ?_))
          · rw [es, h5, yset, if_neg (by unfold yoff; rw [decide_eq_true z]; simp)]
          · rw [es]
            unfold yfor
            rw [decide_eq_false w, hb]
            simp
        · have q1 : ∀ j, j ≠ 5 → (zwi IL2 s 5 (IL.1 s 5 ||| (1 <<< (nI i &&& 31)))).1 s j = IL.1 s j := fun j hj => by rw [zwi_at, if_neg hj, es]
          refine on _ _ (zfr_tr fr2 (zfr_wi ms)) (by rw [zwi_ne (by omega), es1]) (by rw [q1 1 (by decide), h1]) (by rw [q1 2 (by decide), h2]) (by rw [q1 3 (by decide), h3]) (by rw [q1 4 (by decide), h4]) (by unfold ynv; rw [if_neg z]) ?_ (b6 _ (fun j hj => ?_))
          · rw [zwi_at, if_pos rfl, h5, yset, if_pos (by unfold yoff; rw [decide_eq_false z, hb]; rfl)]
          · rw [q1 6 (by decide)]
            unfold yfor
            rw [decide_eq_false z, hb]
            simp
      rw [cm, no, hCI.mi i (by omega)]
      have ss := hH.ss
      refine zdec (fun zm => zix_i im (zix_i im (zdec (fun zf => ?_) (fun zf => ?_)))) (fun zm => zix_i im (zdec (fun zf => ?_) (fun zf => ?_)))
      · refine c_windOf (vo := H.vo i) ss (by omega) hCI.len hCI.ss (hCI.vo i (by omega)) (fun IL2 f2 => (kI ?_))
        have := core (H.mi i) IL2 f2
        unfold yno ynw ymi at this
        rw [if_pos zm, zf] at this
        rw [zf]
        exact this
      · have zf1 := hfa.resolve_left zf
        refine c_windOf (vo := H.vo i) ss (by omega) hCI.len hCI.ss (hCI.vo i (by omega)) (fun IL2 f2 => (kI ?_))
        have := core (H.mi i) IL2 f2
        unfold yno ynw ymi at this
        rw [if_pos zm, zf1] at this
        rw [zf1]
        exact this
      · refine c_windOf (vo := H.vo i) ss (by omega) hCI.len hCI.ss (hCI.vo i (by omega)) (fun IL2 f2 => (kI ?_))
        have := core mo IL2 f2
        unfold yno ynw ymi at this
        rw [if_neg zm, zf] at this
        rw [zf]
        exact this
      · have zf1 := hfa.resolve_left zf
        refine c_windOf (vo := H.vo i) ss (by omega) hCI.len hCI.ss (hCI.vo i (by omega)) (fun IL2 f2 => (kI ?_))
        have := core mo IL2 f2
        unfold yno ynw ymi at this
        rw [if_neg zm, zf1] at this
        rw [zf1]
        exact this
theorem c_sitAs (hs : zSt t s) (h22 : 22 ≤ s) (hH : yOK H) (hfa : fa = 0 ∨ fa = 1) (hC : yCH u H IL) (hS : yCS s S IL) (hB : ySB H S) (hQ : ∀ IL', zfr [s, s + 1, zH u + 5, zH u + 7] IL IL' → yCS s (ysit H mo q fa c S) IL' → IL'.1 s 5 = yset (yoff H mo q fa S) H.n → IL'.1 s 6 = yset (yfor H mo q fa S) H.n → Q (zFx t, IL') (some (.int (if ypas H mo q fa S then 1 else 0)))) : zcall xs (d + 4) 82 (zFx t, IL) [.ref s, .ref (zH u), .int (nI c), .int q, .int mo, .int fa] Q := by
  have n7 := hH.n7
  have k6 := hH.k6
  have zl := zH_le u
  have ms : s ∈ [s, s + 1, zH u + 5, zH u + 7] := List.mem_cons_self
  refine sX6_sitAs t u s _ _ _ _ IL hs (c_bitCount ⟨rfl, sX4_everyone t u _ (kI ?_)⟩)
  have fr : ∀ v, zfr [s, s + 1, zH u + 5, zH u + 7] IL (zwi (zwi IL s 5 0) s 6 v) := fun v => zfr_tr (zfr_wi ms) (zfr_wi ms)
  have e1 : IL.1 s 2 = S 8 := hS.read
  rw [e1, y_cnt (fun i hi => hB.read i (by omega)), zwi_ne (show zH u ≠ s by omega), hC.mem]
  refine l_sitAs (s := s) hs h22 hH hfa hC hQ H.n 0 _ _ _ (by omega) (fr _) (fun j hj => ?_) ?_ ?_ ?_ ?_ ?_ (fun j hj => ?_)
  · rw [zwi_ne (by omega), zwi_ne (by omega), hS.no j hj]
    unfold yS1
    rw [if_neg (fun z => by have := z.1; omega)]
  · rw [zwi_at, if_neg (by decide), zwi_at, if_neg (by decide), hS.out]
  · rw [zwi_at, if_neg (by decide), zwi_at, if_neg (by decide), hS.read]
  · rw [zwi_at, if_neg (by decide), zwi_at, if_neg (by decide), hS.car]
  · rw [zwi_at, if_neg (by decide), zwi_at, if_neg (by decide), hS.seed]
  · rw [zwi_at, if_neg (by decide), zwi_at, if_pos rfl]
    rfl
  · rw [zwi_at, if_pos rfl, b_and, y_all H.n n7 j hj, b_xor, b_m1 j hj, zwi_at, if_neg (by decide), hS.out, decide_eq_false (p := j < 0) (by omega), decide_eq_true (p := 0 ≤ j) (by omega)]
    cases bt (S 7) j <;> simp
theorem c_sit (hs : zSt t s) (h22 : 22 ≤ s) (hH : yOK H) (hfa : fa = 0 ∨ fa = 1) (hc : c < H.k) (hC : yCH u H IL) (hS : yCS s S IL) (hB : ySB H S) (hQ : ∀ IL', zfr [s, s + 1, zH u + 5, zH u + 7] IL IL' → yCS s (ysit H (-1) (H.sh c) fa c S) IL' → IL'.1 s 5 = yset (yoff H (-1) (H.sh c) fa S) H.n → IL'.1 s 6 = yset (yfor H (-1) (H.sh c) fa S) H.n → Q (zFx t, IL') (some (.int (if ypas H (-1) (H.sh c) fa S then 1 else 0)))) : zcall xs (d + 5) 81 (zFx t, IL) [.ref s, .ref (zH u), .int (nI c), .int fa] Q := by
  have k6 := hH.k6
  refine sX6_sit t u s _ _ IL hs (zix_i (vp_in_nI (by omega) (by omega)) ?_)
  rw [nI_clamp (by omega), hC.sh c hc]
  refine c_sitAs hs h22 hH hfa hC hS hB (fun IL' f1 f2 f3 f4 => (kI ?_))
  have := hQ IL' f1 f2 f3 f4
  revert this
  cases ypas H (-1) (H.sh c) fa S <;> exact id
end SIT
