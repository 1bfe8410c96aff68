/-! how much one winds: the class's side -/
/-- what is as it was but for these cells -/
def zfr (cs : List Nat) (IL IL' : zIL) : Prop := (∀ c, c ∉ cs → IL'.1 c = IL.1 c) ∧ IL'.2 = IL.2
theorem zfr_rf {cs : List Nat} {IL : zIL} : zfr cs IL IL := ⟨fun _ _ => rfl, rfl⟩
theorem zfr_tr {cs : List Nat} {A B C : zIL} (h1 : zfr cs A B) (h2 : zfr cs B C) : zfr cs A C := ⟨fun c h => (h2.1 c h).trans (h1.1 c h), h2.2.trans h1.2⟩
theorem zfr_wi {cs : List Nat} {IL : zIL} {c j : Nat} {v : Int32} (h : c ∈ cs) : zfr cs IL (zwi IL c j v) := ⟨fun x hx => zup_ne (fun e => hx (e ▸ h)), rfl⟩
theorem zfr_le {cs ds : List Nat} {A B : zIL} (h : zfr cs A B) (hs : ∀ c, c ∈ cs → c ∈ ds) : zfr ds A B := ⟨fun c hc => h.1 c (fun z => hc (hs c z)), h.2⟩
theorem zwi_at {IL : zIL} {c j j' : Nat} {v : Int32} : (zwi IL c j v).1 c j' = if j' = j then v else IL.1 c j' := zup_at
theorem zwi_ne {IL : zIL} {c j c' : Nat} {v : Int32} (h : c' ≠ c) : (zwi IL c j v).1 c' = IL.1 c' := zup_ne h
def zjo (k a b : Int32) : Int32 := if k = 37 then (if b = 0 then 0 else a - a / b * b) else if k = 42 then a * b else if k = 43 then a + b else if k = 45 then a - b else if k = 47 then (if b = 0 then 0 else a / b) else if k = 60 then (if a < b then 1 else 0) else if k = 61 then (if a = b then 1 else 0) else if k = 62 then (if b < a then 1 else 0) else if k = 109 then (if a = 0 then (if b = 0 then 0 else 1) else 1) else if k = 110 then (if a = 0 then 0 else if b = 0 then 0 else 1) else 0
/-- one step on the stack: its height and what it holds -/
def zev1 (g : Nat → Int32) (s : Int32) (p : Nat × (Nat → Int32)) : Nat × (Nat → Int32) :=
  if s < 0 then
    (if -s < 112 then
      (if -s = 111 then (p.1, fun j => if j = p.1 - 1 then (if p.2 (p.1 - 1) = 0 then 1 else 0) else p.2 j)
       else (p.1 - 1, fun j => if j = p.1 - 2 then zjo (-s) (p.2 (p.1 - 2)) (p.2 (p.1 - 1)) else p.2 j))
     else (p.1 + 1, fun j => if j = p.1 then g (-s - 112).toNatClampNeg else p.2 j))
  else (p.1 + 1, fun j => if j = p.1 then s else p.2 j)
def zev (g : Nat → Int32) : List Int32 → Nat × (Nat → Int32) → Nat × (Nat → Int32)
  | [], p => p
  | s :: ss, p => zev g ss (zev1 g s p)
/-- the steps can be done from that height on -/
def zwf : List Int32 → Nat → Prop
  | [], _ => True
  | s :: ss, h => if s < 0 then
      (if -s < 112 then (if -s = 111 then 1 ≤ h ∧ h ≤ 30 ∧ zwf ss h else 2 ≤ h ∧ h ≤ 30 ∧ zwf ss (h - 1)) else ¬ (117 : Int32) < -s ∧ h < 30 ∧ zwf ss (h + 1))
    else h < 30 ∧ zwf ss (h + 1)
theorem zif_R {c : Prop} [Decidable c] {A B : Prop} (P : Int32 → Prop) {a b : Int32} (h : P (if c then a else b)) (hA : c → P a → A) (hB : ¬ c → P b → B) : zif2 (decide c) A B :=
  zdec (fun z => hA z (by rw [if_pos z] at h; exact h)) (fun z => hB z (by rw [if_neg z] at h; exact h))
section WIND
variable {xs : List Int32} {d : Nat} {Q : zQ} {t u : Bool} {IL : zIL}
theorem c_joined {k a b : Int32} (h : Q (zFx t, IL) (some (.int (zjo k a b)))) : zcall xs (d + 1) 25 (zFx t, IL) [.int k, .int a, .int b] Q := by
  refine sX1_joined t k a b IL ?_
  generalize hP : (fun v : Int32 => Q (zFx t, IL) (some (.int v))) = P
  replace h : P (zjo k a b) := by rw [← hP]; exact h
  unfold zjo at h
  have L : ∀ v, P v → Q (zFx t, IL) (some (.int v)) := fun v hv => by rw [← hP] at hv; exact hv
  exact zif_R P h (fun _ h => zif_R P h (fun _ h => L _ h) (fun z h => ⟨z, L _ h⟩)) (fun _ h => zif_R P h (fun _ h => L _ h) (fun _ h => zif_R P h (fun _ h => L _ h) (fun _ h => zif_R P h (fun _ h => L _ h) (fun _ h => zif_R P h (fun _ h => zif_R P h (fun _ h => L _ h) (fun z h => ⟨z, L _ h⟩)) (fun _ h => zif_R P h (fun _ h => zif_R P h (fun _ h => L _ h) (fun _ h => L _ h)) (fun _ h => zif_R P h (fun _ h => zif_R P h (fun _ h => L _ h) (fun _ h => L _ h)) (fun _ h => zif_R P h (fun _ h => zif_R P h (fun _ h => L _ h) (fun _ h => L _ h)) (fun _ h => zif_R P h (fun _ h => zif_R P h (fun _ h => zif_R P h (fun _ h => L _ h) (fun _ h => L _ h)) (fun _ h => L _ h)) (fun _ h => zif_R P h (fun _ h => zif_R P h (fun _ h => L _ h) (fun _ h => zif_R P h (fun _ h => L _ h) (fun _ h => L _ h))) (fun _ h => L _ h))))))))))
theorem zin6 {x : Int32} (h1 : ¬ x < 112) (h2 : ¬ 117 < x) : vp_in (x - 112) 6 := by
  have e : (x - 112).toInt = x.toInt - 112 := by
    have a1 := Int32.not_lt.mp h1
    have a2 := Int32.not_lt.mp h2
    rw [Int32.le_iff_toInt_le] at a1 a2
    have b1 : (112 : Int32).toInt = 112 := by decide
    have b2 : (117 : Int32).toInt = 117 := by decide
    rw [b1] at a1
    rw [b2] at a2
    rw [i_sub (by omega) (by omega) (by rw [b1]; omega) (by rw [b1]; omega), b1]
  have a1 := Int32.not_lt.mp h1
  have a2 := Int32.not_lt.mp h2
  rw [Int32.le_iff_toInt_le] at a1 a2
  have b1 : (112 : Int32).toInt = 112 := by decide
  have b2 : (117 : Int32).toInt = 117 := by decide
  rw [b1] at a1
  rw [b2] at a2
  exact vp_in_iff.mpr ⟨by omega, by omega⟩
theorem l_value {ss : List Int32} {g : Nat → Int32} (hlen : ss.length ≤ 270) : ∀ (rest : List Int32) (IL : zIL) (i h : Nat) (f : Nat → Int32) (w3 w4 : Value), ss.drop i = rest → i ≤ ss.length → IL.1 (zH u + 4) 0 = nI ss.length → (∀ j, j < ss.length → IL.1 (zH u + 6) j = ss.getD j 0) → (∀ j, j < 6 → IL.1 (zH u + 5) j = g j) → h ≤ 30 → (∀ j, j < h → IL.1 (zH u + 7) j = f j) → zwf rest h → (∀ IL', zfr [zH u + 7] IL IL' → (∀ j, j < (zev g rest (h, f)).1 → IL'.1 (zH u + 7) j = (zev g rest (h, f)).2 j) → Q (zFx t, IL') (some (.int (IL'.1 (zH u + 7) 0)))) → gX1_value xs (d + 1) Q 4 [.ref (zH u + 4), .int (nI h), .int (nI i), w3, w4] [] (zFx t, IL) := by
  intro rest
  induction rest with
  | nil =>
    intro IL i h f w3 w4 hd hi h0 hs hg hh hf hw hQ
    have hl : ss.length ≤ i := List.drop_eq_nil_iff.mp hd
    refine sX1_value_4 t u _ _ _ _ IL (zdec (fun z => absurd z (by rw [h0]; exact nI_nlt hl (by omega))) (fun _ => hQ IL zfr_rf hf))
  | cons s rest ih =>
    intro IL i h f w3 w4 hd hi h0 hs hg hh hf hw hQ
    have hlt : i < ss.length := by
      rcases Nat.lt_or_ge i ss.length with q | q
      · exact q
      · rw [List.drop_eq_nil_iff.mpr q] at hd; cases hd
    have hsi : ss.getD i 0 = s := by
      have := List.getElem?_drop (xs := ss) (i := i) (j := 0)
      rw [hd] at this
      rw [List.getD_eq_getElem?_getD, ← Nat.add_zero i, ← this]
      rfl
    have hd' : ss.drop (i + 1) = rest := by
      rw [← List.drop_drop, hd]; rfl
    have hv : IL.1 (zH u + 6) (nI i).toNatClampNeg = s := by rw [nI_clamp (by omega), hs i hlt, hsi]
    have e56 : zH u + 5 ≠ zH u + 7 := by omega
    have e46 : zH u + 4 ≠ zH u + 7 := by omega
    have e66 : zH u + 6 ≠ zH u + 7 := by omega
    -- going on behind a step that has written the stack's place k
    have on : ∀ (k h2 : Nat) (v : Int32) (w3 w4 : Int32), h2 ≤ 30 → zev1 g s (h, f) = (h2, fun j => if j = k then v else f j) → zwf rest h2 → (∀ j, j < h2 → j = k ∨ j < h) → gX1_value xs (d + 1) Q 162 [.ref (zH u + 4), .int (nI h2), .int (nI i), .int w3, .int w4] [] (zFx t, zwi IL (zH u + 7) k v) := by
      intro k h2 v w3 w4 hh2 he hw2 hk
      refine sX1_value_162 t u _ _ _ _ _ ?_
      rw [nI_1]
      refine ih (zwi IL (zH u + 7) k v) (i + 1) h2 (fun j => if j = k then v else f j) _ _ hd' (by omega) (by rw [zwi_ne e46]; exact h0) (fun j hj => by rw [zwi_ne e66]; exact hs j hj) (fun j hj => by rw [zwi_ne e56]; exact hg j hj) hh2 (fun j hj => ?_) hw2 (fun IL' hfr hst => ?_)
      · rw [zwi_at]
        by_cases e : j = k
        · rw [if_pos e, if_pos e]
        · rw [if_neg e, if_neg e]
          exact hf j ((hk j hj).resolve_left e)
      · refine hQ IL' (zfr_tr (zfr_wi List.mem_cons_self) hfr) ?_
        unfold zev
        rw [he]
        exact hst
    refine sX1_value_4 t u _ _ _ _ IL (zdec (fun _ => zix_i (vp_in_nI (by omega) (by omega)) ?_) (fun z => absurd (by rw [h0]; exact nI_lt hlt (by omega)) z))
    rw [hv]
    have bin : s < 0 → -s < 112 → ¬ -s = 111 → 2 ≤ h → zwf rest (h - 1) → gX1_value xs (d + 1) Q 127 [.ref (zH u + 4), .int (nI h), .int (nI i), .int s, .int (-s)] [] (zFx t, IL) := by
      intro z1 z2 z3 z4 z5
      obtain ⟨m, rfl⟩ : ∃ m, h = m + 2 := ⟨h - 2, by omega⟩
      refine sX1_value_127 t u _ _ _ _ IL (zdec (fun q => absurd q (nI_nlt (a := m + 2) (b := 2) (by omega) (by omega))) (fun _ => ?_))
      have e1 : nI (m + 2) + (-1) = nI (m + 1) := pk_m1 (m + 1)
      have e2 : nI (m + 1) - 1 = nI m := nI_pred m
      rw [e1]
      refine sX1_value_135 t u _ _ _ _ IL ?_
      rw [e2]
      refine zix_i (vp_in_nI (by omega) (by omega)) (zix_i (vp_in_nI (by omega) (by omega)) (c_joined ⟨rfl, zix_i (vp_in_nI (by omega) (by omega)) ?_⟩))
      rw [nI_clamp (by omega), nI_clamp (by omega), hf m (by omega), hf (m + 1) (by omega)]
      refine on m (m + 1) _ _ _ (by omega) ?_ z5 (fun j hj => by omega)
      unfold zev1
      rw [if_pos z1, if_pos z2, if_neg z3]
      rfl
    unfold zwf at hw
    by_cases z1 : s < 0
    · rw [if_pos z1] at hw
      rw [decide_eq_true z1]
      show gX1_value xs (d + 1) Q 46 [.ref (zH u + 4), .int (nI h), .int (nI i), .int s, .int (-s)] [] (zFx t, IL)
      by_cases z2 : -s < 112
      · rw [if_pos z2] at hw
        refine sX1_value_46 t u _ _ _ _ IL (zdec (fun _ => ?_) (fun q => absurd z2 q))
        by_cases z3 : -s = 111
        · rw [if_pos z3] at hw
          obtain ⟨w1, w2, w3⟩ := hw
          obtain ⟨m, rfl⟩ : ∃ m, h = m + 1 := ⟨h - 1, by omega⟩
          refine sX1_value_88 t u _ _ _ _ IL (zdec (fun _ => zdec (fun q => absurd q (nI_nlt (a := m + 1) (b := 1) (by omega) (by omega))) (fun _ => ?_)) (fun q => absurd z3 q))
          rw [nI_pred]
          refine zix_i (vp_in_nI (by omega) (by omega)) ?_
          rw [nI_clamp (by omega), hf m (by omega)]
          have key : zev1 g s (m + 1, f) = (m + 1, fun j => if j = m then (if f m = 0 then 1 else 0) else f j) := by
            unfold zev1
            rw [if_pos z1, if_pos z2, if_pos z3]
            rfl
          refine zdec (fun q => zix_i (vp_in_nI (by omega) (by omega)) ?_) (fun q => zix_i (vp_in_nI (by omega) (by omega)) ?_)
          · exact on m (m + 1) 1 _ _ (by omega) (by rw [key, if_pos q]) w3 (fun j hj => by omega)
          · exact on m (m + 1) 0 _ _ (by omega) (by rw [key, if_neg q]) w3 (fun j hj => by omega)
        · rw [if_neg z3] at hw
          exact sX1_value_88 t u _ _ _ _ IL (zdec (fun q => absurd q z3) (fun _ => bin z1 z2 z3 hw.1 hw.2.2))
      · rw [if_neg z2] at hw
        obtain ⟨w1, w2, w3⟩ := hw
        refine sX1_value_46 t u _ _ _ _ IL (zdec (fun q => absurd q z2) (fun _ => zdec (fun q => absurd q w1) (fun _ => zdec (fun _ => zix_i (zin6 z2 w1) (zix_i (vp_in_nI (by omega) (by omega)) ?_)) (fun q => absurd (nI_lt (a := h) (b := 30) (by omega) (by omega)) q))))
        rw [nI_1, nI_clamp (by omega)]
        have hq : (-s - 112).toNatClampNeg < 6 := by
          have := zin6 z2 w1
          exact Nat.not_le.mp (fun q => this (Or.inr q))
        rw [hg _ hq]
        refine on h (h + 1) _ _ _ (by omega) ?_ w3 (fun j hj => by omega)
        unfold zev1
        rw [if_pos z1, if_neg z2]
    · rw [if_neg z1] at hw
      rw [decide_eq_false z1]
      refine (show zif2 _ _ _ from zdec (fun _ => zix_i (vp_in_nI (by omega) (by omega)) ?_) (fun q => absurd (nI_lt (a := h) (b := 30) (by omega) (by omega)) q))
      rw [nI_1, nI_clamp (by omega)]
      refine on h (h + 1) _ _ _ (by omega) ?_ hw.2 (fun j hj => by omega)
      unfold zev1
      rw [if_neg z1]
end WIND
/-- the height behind the steps -/
theorem zev1_congr {g : Nat → Int32} {s : Int32} {h : Nat} {f f' : Nat → Int32} (hf : ∀ j, j < h → f j = f' j) (hw : zwf [s] h) : (zev1 g s (h, f)).1 = (zev1 g s (h, f')).1 ∧ ∀ j, j < (zev1 g s (h, f)).1 → (zev1 g s (h, f)).2 j = (zev1 g s (h, f')).2 j := by
  unfold zev1
  unfold zwf at hw
  split
  · rw [if_pos ‹_›] at hw
    split
    · rw [if_pos ‹_›] at hw
      split
      · rw [if_pos ‹_›] at hw
        refine ⟨rfl, fun j hj => ?_⟩
        replace hj : j < h := hj
        show (if j = h - 1 then (if f (h - 1) = 0 then (1 : Int32) else 0) else f j) = (if j = h - 1 then (if f' (h - 1) = 0 then 1 else 0) else f' j)
        rw [hf (h - 1) (by omega), hf j hj]
      · rw [if_neg ‹_›] at hw
        refine ⟨rfl, fun j hj => ?_⟩
        replace hj : j < h - 1 := hj
        show (if j = h - 2 then zjo (-s) (f (h - 2)) (f (h - 1)) else f j) = (if j = h - 2 then zjo (-s) (f' (h - 2)) (f' (h - 1)) else f' j)
        rw [hf (h - 1) (by omega), hf (h - 2) (by omega), hf j (by omega)]
    · refine ⟨rfl, fun j hj => ?_⟩
      dsimp only at hj ⊢
      by_cases e : j = h
      · rw [if_pos e, if_pos e]
      · rw [if_neg e, if_neg e, hf j (by omega)]
  · refine ⟨rfl, fun j hj => ?_⟩
    dsimp only at hj ⊢
    by_cases e : j = h
    · rw [if_pos e, if_pos e]
    · rw [if_neg e, if_neg e, hf j (by omega)]
theorem zwf_cons {s : Int32} {ss : List Int32} {h : Nat} {g : Nat → Int32} {f : Nat → Int32} (hw : zwf (s :: ss) h) : zwf [s] h ∧ zwf ss (zev1 g s (h, f)).1 := by
  by_cases a : s < 0
  · by_cases b : -s < 112
    · by_cases c : -s = 111
      · simp only [zwf, zev1, if_pos a, if_pos b, if_pos c, and_true] at hw ⊢
        exact ⟨⟨hw.1, hw.2.1⟩, hw.2.2⟩
      · simp only [zwf, zev1, if_pos a, if_pos b, if_neg c, and_true] at hw ⊢
        exact ⟨⟨hw.1, hw.2.1⟩, hw.2.2⟩
    · simp only [zwf, zev1, if_pos a, if_neg b, and_true] at hw ⊢
      exact ⟨⟨hw.1, hw.2.1⟩, hw.2.2⟩
  · simp only [zwf, zev1, if_neg a, and_true] at hw ⊢
    exact ⟨hw.1, hw.2⟩
theorem zev_congr {g : Nat → Int32} : ∀ (ss : List Int32) (h : Nat) (f f' : Nat → Int32), (∀ j, j < h → f j = f' j) → zwf ss h → (zev g ss (h, f)).1 = (zev g ss (h, f')).1 ∧ ∀ j, j < (zev g ss (h, f)).1 → (zev g ss (h, f)).2 j = (zev g ss (h, f')).2 j
  | [], h, f, f', hf, _ => ⟨rfl, hf⟩
  | s :: ss, h, f, f', hf, hw => by
    obtain ⟨w1, w2⟩ := zwf_cons (g := g) (f := f) hw
    obtain ⟨c1, c2⟩ := zev1_congr (g := g) hf w1
    unfold zev
    have := zev_congr (g := g) ss (zev1 g s (h, f)).1 (zev1 g s (h, f)).2 (zev1 g s (h, f')).2 c2 w2
    rw [show zev1 g s (h, f') = ((zev1 g s (h, f)).1, (zev1 g s (h, f')).2) by rw [c1]]
    exact this
/-- steps of a formula: none, or such as leave one value -/
def zsok (ss : List Int32) : Prop := ss.length ≤ 269 ∧ (ss = [] ∨ (zwf ss 0 ∧ ∀ g f, (zev g ss (0, f)).1 = 1))
def zgv (sh mi vo no fa re : Int32) : Nat → Int32
  | 0 => sh
  | 1 => mi
  | 2 => vo
  | 3 => no
  | 4 => fa
  | _ => re
/-- what winds tells, as it is -/
def zwv (ss : List Int32) (sh mi vo no fa re : Int32) : Int32 := match ss with
  | [] => (sh + mi) / 3 - fa * 2
  | _ => (zev (zgv sh mi vo no fa re) ss (0, fun _ => 0)).2 0
/-- the class: no more is let off than he has -/
def zcwd (no w : Int32) : Int32 := zmax (zmax (-9) (-no)) (zmin 9 w)
section WIND2
variable {xs : List Int32} {d : Nat} {Q : zQ} {t u : Bool} {IL : zIL}
theorem c_windOf {ss : List Int32} {m : Nat} {sh mi no fa re vo : Int32} (hss : zsok ss) (hm : m < 7) (h0 : IL.1 (zH u + 4) 0 = nI ss.length) (hs : ∀ j, j < ss.length → IL.1 (zH u + 6) j = ss.getD j 0) (hvo : IL.1 (zH u + 2) m = vo) (hQ : ∀ IL', zfr [zH u + 5, zH u + 7] IL IL' → Q (zFx t, IL') (some (.int (zcwd no (zwv ss sh mi vo no fa re))))) : zcall xs (d + 3) 47 (zFx t, IL) [.ref (zH u), .int (nI m), .int sh, .int mi, .int no, .int fa, .int re] Q := by
  refine sX4_windOf t u _ _ _ _ _ _ IL (zdec (fun z => ?_) (fun z => ?_))
  · have e : ss = [] := by
      rw [h0, ← nI_0, nI_eq (by have := hss.1; omega) (by omega)] at z
      exact List.eq_nil_of_length_eq_zero z
    subst e
    exact ⟨by decide, c_max ⟨rfl, c_min ⟨rfl, c_max ⟨rfl, hQ IL zfr_rf⟩⟩⟩⟩
  · have hne : ss ≠ [] := fun e => z (by rw [h0, e]; rfl)
    obtain ⟨w1, w2⟩ := hss.2.resolve_left hne
    refine zix_i (vp_in_nI hm (by omega)) ?_
    rw [nI_clamp (by omega)]
    have n25 : zH u + 2 ≠ zH u + 5 := by omega
    have n45 : zH u + 4 ≠ zH u + 5 := by omega
    have n65 : zH u + 6 ≠ zH u + 5 := by omega
    have n75 : zH u + 7 ≠ zH u + 5 := by omega
    rw [show (zwi (zwi IL (zH u + 5) 0 sh) (zH u + 5) 1 mi).1 (zH u + 2) m = vo by rw [zwi_ne n25, zwi_ne n25]; exact hvo]
    generalize hI : zwi (zwi (zwi (zwi (zwi (zwi IL (zH u + 5) 0 sh) (zH u + 5) 1 mi) (zH u + 5) 2 vo) (zH u + 5) 3 no) (zH u + 5) 4 fa) (zH u + 5) 5 re = IG
    have fI : zfr [zH u + 5, zH u + 7] IL IG := by
      rw [← hI]
      have h5 : zH u + 5 ∈ [zH u + 5, zH u + 7] := List.mem_cons_self
      exact zfr_tr (zfr_tr (zfr_tr (zfr_tr (zfr_tr (zfr_wi h5) (zfr_wi h5)) (zfr_wi h5)) (zfr_wi h5)) (zfr_wi h5)) (zfr_wi h5)
    have g5 : ∀ j, j < 6 → IG.1 (zH u + 5) j = zgv sh mi vo no fa re j := by
      intro j hj
      rw [← hI]
      simp only [zwi_at]
      match j, hj with
      | 0, _ => rfl
      | 1, _ => rfl
      | 2, _ => rfl
      | 3, _ => rfl
      | 4, _ => rfl
      | 5, _ => rfl
      | j + 6, h => omega
    have o4 : IG.1 (zH u + 4) = IL.1 (zH u + 4) := fI.1 _ (by simp)
    have o6 : IG.1 (zH u + 6) = IL.1 (zH u + 6) := fI.1 _ (by simp)
    refine sX1_value t u IG ?_
    refine l_value (g := zgv sh mi vo no fa re) (by have := hss.1; omega) ss IG 0 0 (fun _ => 0) _ _ rfl (by omega) (by rw [o4]; exact h0) (fun j hj => by rw [o6]; exact hs j hj) g5 (by omega) (fun j hj => absurd hj (Nat.not_lt_zero j)) w1 (fun IL' hfr hst => ⟨rfl, ?_⟩)
    have hv : IL'.1 (zH u + 7) 0 = zwv ss sh mi vo no fa re := by
      rw [hst 0 (by rw [w2]; omega)]
      unfold zwv
      split
      · exact absurd rfl hne
      · rfl
    show zcall xs (d + 2) 3 (zFx t, IL') [.int (-9), .int (-no)] _
    refine c_max ⟨rfl, c_min ⟨rfl, c_max ⟨rfl, ?_⟩⟩⟩
    rw [hv]
    exact hQ IL' (zfr_tr fI (zfr_le hfr (fun c hc => by rw [List.mem_singleton.mp hc]; simp)))
end WIND2
