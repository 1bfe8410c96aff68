/-! how much one winds: the model's side -/
def ybin (k : Int32) : Prop := k = 37 ∨ k = 42 ∨ k = 43 ∨ k = 45 ∨ k = 47 ∨ k = 60 ∨ k = 61 ∨ k = 62 ∨ k = 109 ∨ k = 110
def ysg (k : Int32) : Int32 := if k = 109 then 124 else if k = 110 then 38 else k
section MWIND
variable {xs : List Int32} {d : Nat} {Q : zQ} {t : Bool} {IL : zIL}
theorem c_truth1 (h : Q (zFx t, IL) (some (.int 1))) : zcall xs (d + 1) 184 (zFx t, IL) [.int 1] Q := sX8_truth t 1 IL h
theorem c_truth0 (h : Q (zFx t, IL) (some (.int 0))) : zcall xs (d + 1) 184 (zFx t, IL) [.int 0] Q := sX8_truth t 0 IL h
theorem c_truth {b : Bool} (h : Q (zFx t, IL) (some (.int (if b then 1 else 0)))) : zcall xs (d + 1) 184 (zFx t, IL) [.int (if b then 1 else 0)] Q := by
  cases b
  · exact c_truth0 h
  · exact c_truth1 h
theorem c_done {k a b : Int32} (hk : ybin k) (h : Q (zFx t, IL) (some (.int (zjo k a b)))) : zcall xs (d + 2) 185 (zFx t, IL) [.int (ysg k), .int a, .int b] Q := by
  refine sX8_done t _ a b IL ?_
  rcases hk with rfl | rfl | rfl | rfl | rfl | rfl | rfl | rfl | rfl | rfl
  · exact zif_R (fun v => Q (zFx t, IL) (some (.int v))) (c := b = 0) (a := 0) (b := a - a / b * b) h (fun _ h => h) (fun z h => ⟨z, h⟩)
  · exact h
  · exact h
  · exact h
  · exact zif_R (fun v => Q (zFx t, IL) (some (.int v))) (c := b = 0) (a := 0) (b := a / b) h (fun _ h => h) (fun z h => ⟨z, h⟩)
  · exact zif_R (fun v => Q (zFx t, IL) (some (.int v))) (c := a < b) (a := 1) (b := 0) h (fun _ h => c_truth1 ⟨rfl, h⟩) (fun z h => c_truth0 ⟨rfl, h⟩)
  · exact zif_R (fun v => Q (zFx t, IL) (some (.int v))) (c := a = b) (a := 1) (b := 0) h (fun _ h => c_truth1 ⟨rfl, h⟩) (fun z h => c_truth0 ⟨rfl, h⟩)
  · exact zif_R (fun v => Q (zFx t, IL) (some (.int v))) (c := b < a) (a := 1) (b := 0) h (fun _ h => c_truth1 ⟨rfl, h⟩) (fun z h => c_truth0 ⟨rfl, h⟩)
  · exact zif_R (fun v => Q (zFx t, IL) (some (.int v))) (c := a = 0) (a := if b = 0 then 0 else 1) (b := 1) h (fun _ h => zif_R (fun v => Q (zFx t, IL) (some (.int v))) (c := b = 0) (a := 0) (b := 1) h (fun _ h => c_truth0 ⟨rfl, h⟩) (fun z h => c_truth1 ⟨rfl, h⟩)) (fun z h => c_truth1 ⟨rfl, h⟩)
  · exact zif_R (fun v => Q (zFx t, IL) (some (.int v))) (c := a = 0) (a := 0) (b := if b = 0 then 0 else 1) h (fun _ h => c_truth0 ⟨rfl, h⟩) (fun z h => zif_R (fun v => Q (zFx t, IL) (some (.int v))) (c := b = 0) (a := 0) (b := 1) h (fun _ h => c_truth0 ⟨rfl, h⟩) (fun z h => c_truth1 ⟨rfl, h⟩))
def ywi (v : Int32) : Int32 := if v < -9 then -9 else if 9 < v then 9 else v
theorem c_within {v : Int32} (h : Q (zFx t, IL) (some (.int (ywi v)))) : zcall xs (d + 1) 186 (zFx t, IL) [.int v, .int (-9), .int 9] Q := by
  refine sX8_within t v (-9) 9 IL ?_
  unfold ywi at h
  exact zif_R (fun v => Q (zFx t, IL) (some (.int v))) h (fun _ h => h) (fun _ h => zif_R (fun v => Q (zFx t, IL) (some (.int v))) h (fun _ h => h) (fun _ h => h))
def yst (s : Int32) : Int32 := if s < 0 then (if -s < 112 then (if -s = 111 then 2 else 3) else 1) else 0
def yar (s : Int32) : Int32 := if s < 0 then (if -s < 112 then (if -s = 111 then 0 else ysg (-s)) else -s - 112) else s
theorem l_mw {ss : List Int32} {g : Nat → Int32} {x1 x2 x3 x4 x5 : Int32} (hlen : ss.length ≤ 270) (hbk : ∀ s, s ∈ ss → s < 0 → -s < 112 → ¬ -s = 111 → ybin (-s)) : ∀ (rest : List Int32) (IL : zIL) (i h : Nat) (f : Nat → Int32), ss.drop i = rest → i ≤ ss.length → IL.1 145 18 = nI ss.length → (∀ j, j < ss.length → IL.1 150 j = yst (ss.getD j 0) ∧ IL.1 151 j = yar (ss.getD j 0)) → (∀ j, j < 6 → IL.1 154 j = g j) → h ≤ 30 → (∀ j, j < h → IL.1 153 j = f j) → zwf rest h → (∀ IL', zfr [153] IL IL' → (∀ j, j < (zev g rest (h, f)).1 → IL'.1 153 j = (zev g rest (h, f)).2 j) → Q (zFx t, IL') (some (.int (ywi (IL'.1 153 0))))) → gX8_windOf xs (d + 2) Q 109 [.ref 145, .int x1, .int x2, .int x3, .int x4, .int x5, .int (nI h), .int (nI i)] [] (zFx t, IL) := by
  intro rest
  induction rest with
  | nil =>
    intro IL i h f hd hi h0 hs hg hh hf hw hQ
    have hl : ss.length ≤ i := List.drop_eq_nil_iff.mp hd
    exact sX8_windOf_109 t _ _ _ _ _ _ _ IL (zdec (fun z => absurd z (by rw [h0]; exact nI_nlt hl (by omega))) (fun _ => c_within ⟨rfl, hQ IL zfr_rf hf⟩))
  | cons s rest ih =>
    intro IL i h f hd hi h0 hs hg hh hf hw hQ
    have hlt : i < ss.length := by
      rcases Nat.lt_or_ge i ss.length with q | q
      · exact q
      · rw [List.drop_eq_nil_iff.mpr q] at hd; cases hd
    have hsi : ss.getD i 0 = s := by
      have := List.getElem?_drop (xs := ss) (i := i) (j := 0)
      rw [hd] at this
      rw [List.getD_eq_getElem?_getD, ← Nat.add_zero i, ← this]
      rfl
    have hmem : s ∈ ss := List.mem_of_mem_drop (hd ▸ List.mem_cons_self)
    have hd' : ss.drop (i + 1) = rest := by
      rw [← List.drop_drop, hd]; rfl
    have hv0 : IL.1 150 (nI i).toNatClampNeg = yst s := by rw [nI_clamp (by omega), (hs i hlt).1, hsi]
    have hv1 : IL.1 151 (nI i).toNatClampNeg = yar s := by rw [nI_clamp (by omega), (hs i hlt).2, hsi]
    have ix : vp_in (nI i) 320 := vp_in_nI (by omega) (by omega)
    have on : ∀ (k h2 : Nat) (v : Int32), h2 ≤ 30 → zev1 g s (h, f) = (h2, fun j => if j = k then v else f j) → zwf rest h2 → (∀ j, j < h2 → j = k ∨ j < h) → gX8_windOf xs (d + 2) Q 109 [.ref 145, .int x1, .int x2, .int x3, .int x4, .int x5, .int (nI h2), .int (nI i + 1)] [] (zFx t, zwi IL 153 k v) := by
      intro k h2 v hh2 he hw2 hk
      rw [nI_1]
      refine ih (zwi IL 153 k v) (i + 1) h2 (fun j => if j = k then v else f j) hd' (by omega) (by rw [zwi_ne (by decide)]; exact h0) (fun j hj => by rw [zwi_ne (by decide), zwi_ne (by decide)]; exact hs j hj) (fun j hj => by rw [zwi_ne (by decide)]; exact hg j hj) hh2 (fun j hj => ?_) hw2 (fun IL' hfr hst => ?_)
      · rw [zwi_at]
        by_cases e : j = k
        · rw [if_pos e, if_pos e]
        · rw [if_neg e, if_neg e]
          exact hf j ((hk j hj).resolve_left e)
      · refine hQ IL' (zfr_tr (zfr_wi List.mem_cons_self) hfr) ?_
        unfold zev
        rw [he]
        exact hst
    refine sX8_windOf_109 t _ _ _ _ _ _ _ IL (zdec (fun _ => zix_i ix ?_) (fun z => absurd (by rw [h0]; exact nI_lt hlt (by omega)) z))
    rw [hv0, hv1]
    unfold zwf at hw
    by_cases z1 : s < 0
    · rw [if_pos z1] at hw
      by_cases z2 : -s < 112
      · rw [if_pos z2] at hw
        by_cases z3 : -s = 111
        · rw [if_pos z3] at hw
          obtain ⟨w1, w2, w3⟩ := hw
          obtain ⟨m, rfl⟩ : ∃ m, h = m + 1 := ⟨h - 1, by omega⟩
          have y : yst s = 2 := by unfold yst; rw [if_pos z1, if_pos z2, if_pos z3]
          have key : zev1 g s (m + 1, f) = (m + 1, fun j => if j = m then (if f m = 0 then 1 else 0) else f j) := by
            unfold zev1
            rw [if_pos z1, if_pos z2, if_pos z3]
            rfl
          have im : vp_in (nI m) 64 := vp_in_nI (by omega) (by omega)
          rw [y, nI_pred]
          show zix _ _ (zix _ _ (zix _ _ _))
          refine zix_i ix (zix_i ix (zix_i im ?_))
          rw [nI_clamp (by omega), hf m (by omega)]
          refine zdec (fun q => c_truth1 ⟨rfl, zix_i im ?_⟩) (fun q => c_truth0 ⟨rfl, zix_i im ?_⟩)
          · exact on m (m + 1) 1 (by omega) (by rw [key, if_pos q]) w3 (fun j hj => by omega)
          · exact on m (m + 1) 0 (by omega) (by rw [key, if_neg q]) w3 (fun j hj => by omega)
        · rw [if_neg z3] at hw
          obtain ⟨w1, w2, w3⟩ := hw
          obtain ⟨m, rfl⟩ : ∃ m, h = m + 2 := ⟨h - 2, by omega⟩
          have y : yst s = 3 := by unfold yst; rw [if_pos z1, if_pos z2, if_neg z3]
          have y1 : yar s = ysg (-s) := by unfold yar; rw [if_pos z1, if_pos z2, if_neg z3]
          have im : vp_in (nI m) 64 := vp_in_nI (by omega) (by omega)
          rw [y]
          show zix _ _ (zix _ _ _)
          refine zix_i ix (zix_i ix ?_)
          have e1 : nI (m + 2) + (-1) = nI (m + 1) := pk_m1 (m + 1)
          have e2 : nI (m + 1) - 1 = nI m := nI_pred m
          rw [e1]
          refine sX8_windOf_230 t _ _ _ _ _ _ _ IL ?_
          rw [e2, hv1, y1]
          refine zix_i ix (zix_i im (zix_i (vp_in_nI (by omega) (by omega)) (c_done (hbk s hmem z1 z2 z3) ⟨rfl, zix_i im ?_⟩)))
          rw [nI_clamp (by omega), nI_clamp (by omega), hf m (by omega), hf (m + 1) (by omega)]
          refine on m (m + 1) _ (by omega) ?_ w3 (fun j hj => by omega)
          unfold zev1
          rw [if_pos z1, if_pos z2, if_neg z3]
          rfl
      · rw [if_neg z2] at hw
        obtain ⟨w1, w2, w3⟩ := hw
        have y : yst s = 1 := by unfold yst; rw [if_pos z1, if_neg z2]
        have y1 : yar s = -s - 112 := by unfold yar; rw [if_pos z1, if_neg z2]
        rw [y, y1]
        show zix _ _ (zix _ _ (zix _ _ (zix _ _ (zix _ _ _))))
        refine zix_i ix (zix_i ix (zix_i ix (zix_i (zin6 z2 w1) (zix_i (vp_in_nI (by omega) (by omega)) ?_))))
        rw [nI_1, nI_clamp (by omega : h < 2147483648)]
        have hq : (-s - 112).toNatClampNeg < 6 := by
          have := zin6 z2 w1
          exact Nat.not_le.mp (fun q => this (Or.inr q))
        rw [hg _ hq]
        refine on h (h + 1) _ (by omega) ?_ w3 (fun j hj => by omega)
        unfold zev1
        rw [if_pos z1, if_neg z2]
    · rw [if_neg z1] at hw
      have y : yst s = 0 := by unfold yst; rw [if_neg z1]
      have y1 : yar s = s := by unfold yar; rw [if_neg z1]
      rw [y, y1]
      show zix _ _ (zix _ _ (zix _ _ _))
      refine zix_i ix (zix_i ix (zix_i (vp_in_nI (by omega) (by omega)) ?_))
      rw [nI_1, nI_clamp (by omega : h < 2147483648)]
      refine on h (h + 1) _ (by omega) ?_ hw.2 (fun j hj => by omega)
      unfold zev1
      rw [if_neg z1]
theorem c_mwindOf {ss : List Int32} {m : Nat} {sh mi no fa re vo : Int32} (hss : zsok ss) (hbk : ∀ s, s ∈ ss → s < 0 → -s < 112 → ¬ -s = 111 → ybin (-s)) (hm : m < 7) (hf : IL.1 145 25 = 0 ↔ ss = []) (h0 : IL.1 145 18 = nI ss.length) (hs : ∀ j, j < ss.length → IL.1 150 j = yst (ss.getD j 0) ∧ IL.1 151 j = yar (ss.getD j 0)) (hvo : IL.1 159 m = vo) (hmi : mi = if IL.1 145 27 < 0 then IL.1 158 m else IL.1 145 27) (hQ : ∀ IL', zfr [153, 154] IL IL' → Q (zFx t, IL') (some (.int (ywi (zwv ss sh mi vo no fa re))))) : zcall xs (d + 3) 190 (zFx t, IL) [.ref 145, .int (nI m), .int sh, .int no, .int fa, .int re] Q := by
  have tail : ∀ IG : zIL, zfr [153, 154] IL IG → (∀ j, j < 6 → IG.1 154 j = zgv sh mi vo no fa re j) → zif2 (decide ((IG.1 145 25 : Int32) = 0)) (¬ (3 : Int32) = 0 ∧ zcall xs (d + 2) 186 (zFx t, IG) [.int ((IG.1 154 0 + IG.1 154 1) / 3 - 2 * fa), .int (-9), .int 9] (zkI (zFx t) fun IL1 y1 => Q (zFx t, IL1) (some (.int y1)))) (gX8_windOf xs (d + 2) Q 109 [.ref 145, .int (nI m), .int sh, .int no, .int fa, .int re, .int 0, .int 0] [] (zFx t, IG)) := by
    intro IG fI g5
    have o : IG.1 145 = IL.1 145 := fI.1 _ (by decide)
    refine zdec (fun z => ⟨by decide, c_within ⟨rfl, ?_⟩⟩) (fun z => ?_)
    · rw [o] at z
      have e := hf.mp z
      have := hQ IG fI
      rw [e] at this
      unfold zwv at this
      dsimp only at this
      rw [g5 0 (by decide), g5 1 (by decide), Int32.mul_comm]
      exact this
    · rw [o] at z
      have hne : ss ≠ [] := fun e => z (hf.mpr e)
      obtain ⟨w1, w2⟩ := hss.2.resolve_left hne
      refine l_mw (g := zgv sh mi vo no fa re) (by have := hss.1; omega) hbk ss IG 0 0 (fun _ => 0) rfl (by omega) (by rw [o]; exact h0) (fun j hj => by rw [fI.1 150 (by decide), fI.1 151 (by decide)]; exact hs j hj) g5 (by omega) (fun j hj => absurd hj (Nat.not_lt_zero j)) w1 (fun IL' hfr hst => ?_)
      have hv : IL'.1 153 0 = zwv ss sh mi vo no fa re := by
        rw [hst 0 (by rw [w2]; omega)]
        unfold zwv
        split
        · exact absurd rfl hne
        · rfl
      rw [hv]
      exact hQ IL' (zfr_tr fI (zfr_le hfr (fun c hc => by rw [List.mem_singleton.mp hc]; simp)))
  have h5 : 154 ∈ [153, 154] := by decide
  have im : vp_in (nI m) 7 := vp_in_nI hm (by omega)
  have cm : (nI m).toNatClampNeg = m := nI_clamp (by omega)
  have g6 : ∀ (a : Int32), a = mi → ∀ j, j < 6 → (zwi (zwi (zwi (zwi (zwi (zwi IL 154 0 sh) 154 1 a) 154 2 vo) 154 3 no) 154 4 fa) 154 5 re).1 154 j = zgv sh mi vo no fa re j := by
    intro a ha j hj
    subst ha
    simp only [zwi_at]
    match j, hj with
    | 0, _ => rfl
    | 1, _ => rfl
    | 2, _ => rfl
    | 3, _ => rfl
    | 4, _ => rfl
    | 5, _ => rfl
    | j + 6, h => omega
  have fr6 : ∀ (a b : Int32), zfr [153, 154] IL (zwi (zwi (zwi (zwi (zwi (zwi IL 154 0 sh) 154 1 a) 154 2 b) 154 3 no) 154 4 fa) 154 5 re) := fun a b => zfr_tr (zfr_tr (zfr_tr (zfr_tr (zfr_tr (zfr_wi h5) (zfr_wi h5)) (zfr_wi h5)) (zfr_wi h5)) (zfr_wi h5)) (zfr_wi h5)
  have ne1 : ∀ (a b : Int32), (zwi (zwi IL 154 0 a) 154 1 b).1 159 = IL.1 159 := fun a b => by rw [zwi_ne (by decide), zwi_ne (by decide)]
  refine sX8_windOf t (nI m) sh no fa re IL (zdec (fun z => zix_i im (zix_i im ?_)) (fun z => zix_i im ?_))
  · rw [zwi_ne (by decide)] at z
    rw [if_pos z] at hmi
    rw [cm, ne1, hvo, show (zwi IL 154 0 sh).1 158 = IL.1 158 from zwi_ne (by decide), ← hmi]
    exact tail _ (fr6 _ _) (g6 _ rfl)
  · rw [zwi_ne (by decide)] at z
    rw [if_neg z] at hmi
    rw [cm, ne1, hvo, show (zwi IL 154 0 sh).1 145 = IL.1 145 from zwi_ne (by decide), ← hmi]
    exact tail _ (fr6 _ _) (g6 _ rfl)
end MWIND
