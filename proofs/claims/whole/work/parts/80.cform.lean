/-! the class reads a formula -/
theorem zkn {x y : Int32} {k c : Nat} {A B : Prop} (hx : x = nI k) (hy : y = nI c) (hk : k ≤ 4000) (hc : c ≤ 4000) (a : k = c → A) (b : k ≠ c → B) : zif2 (decide (x = y)) A B := by
  subst hx
  subst hy
  exact zdec (fun z => a ((nI_eq (by omega) (by omega)).mp z)) (fun z => b (fun q => z (by rw [q])))
theorem zln {x y : Int32} {k c : Nat} {A B : Prop} (hx : x = nI k) (hy : y = nI c) (hk : k ≤ 100000) (hc : c ≤ 100000) (a : k < c → A) (b : c ≤ k → B) : zif2 (decide (x < y)) A B := by
  subst hx
  subst hy
  exact zdec (fun z => a ((nI_ltI (by omega) (by omega)).mp z)) (fun z => b (Nat.le_of_not_lt (fun q => z ((nI_ltI (by omega) (by omega)).mpr q))))
/-- what the reading of a formula may change -/
def yff (u : Bool) (A B : zIL) : Prop := (∀ c j, ¬ (c = 1 ∧ (j = 1 ∨ j = 2 ∨ (7 ≤ j ∧ j ≤ 10))) → ¬ (c = zH u + 4 ∧ j ≤ 1) → c ≠ zH u + 6 → B.1 c j = A.1 c j) ∧ (∀ c j, ¬ (c = 1 ∧ j = 11) → B.2 c j = A.2 c j)
theorem yff_rf {u : Bool} {A : zIL} : yff u A A := ⟨fun _ _ _ _ _ => rfl, fun _ _ _ => rfl⟩
theorem yff_tr {u : Bool} {A B C : zIL} (h1 : yff u A B) (h2 : yff u B C) : yff u A C := ⟨fun c j a b e => (h2.1 c j a b e).trans (h1.1 c j a b e), fun c j h => (h2.2 c j h).trans (h1.2 c j h)⟩
theorem yff_p {u : Bool} {A B : zIL} (h : yfp A B) : yff u A B := ⟨fun c j a _ _ => h.1 c j (by omega), h.2⟩
/-- steps and units of the formula that is read -/
def ypfs (u : Bool) (W : List Int32) (k : Nat) (IL : zIL) : Prop := IL.1 (zH u + 4) 0 = nI W.length ∧ IL.1 (zH u + 4) 1 = nI k ∧ ∀ j, j < W.length → IL.1 (zH u + 6) j = W.getD j 0
theorem ypfs_p {u : Bool} {W : List Int32} {k : Nat} {A B : zIL} (h : ypfs u W k A) (f : yfp A B) : ypfs u W k B := by
  have := zH_ge u
  exact ⟨by rw [f.1 _ _ (by omega)]; exact h.1, by rw [f.1 _ _ (by omega)]; exact h.2.1, fun j hj => by rw [f.1 _ _ (by omega)]; exact h.2.2 j hj⟩
def ypC (u : Bool) (B : Nat → Nat) (n : Nat) (p : yps) (IL : zIL) : Prop := ytp n B IL ∧ ytC p.tk IL ∧ IL.1 1 1 = 0 ∧ ypfs u p.W p.u IL
def ypX (u : Bool) (c s : Nat) (IL : zIL) : Prop := IL.1 1 1 = nI c ∧ IL.1 1 2 = nI s ∧ ∃ L, L ≤ 270 ∧ IL.1 (zH u + 4) 0 = nI L
def ypP (u : Bool) (B : Nat → Nat) (n : Nat) (r : Nat × yps) (IL : zIL) : Prop := (r.1 = 0 → ypC u B n r.2 IL) ∧ (r.1 ≠ 0 → ypX u r.1 r.2.tk.s IL)
theorem ypP_ok {u : Bool} {B : Nat → Nat} {n : Nat} {p : yps} {IL : zIL} (h : ypC u B n p IL) : ypP u B n (0, p) IL := ⟨fun _ => h, fun z => absurd rfl z⟩
theorem ygd_l : ∀ (W : List Int32) (x : Int32), (W ++ [x]).getD W.length 0 = x
  | [], _ => rfl
  | _ :: W, x => ygd_l W x
theorem ygd_a : ∀ (W : List Int32) (x : Int32) (j : Nat), j < W.length → (W ++ [x]).getD j 0 = W.getD j 0
  | [], _, j, h => absurd h (Nat.not_lt_zero j)
  | _ :: _, _, 0, _ => rfl
  | _ :: W, x, j + 1, h => ygd_a W x j (Nat.lt_of_succ_lt_succ h)
section CFORM
variable {xs : List Int32} {d : Nat} {Q : zQ} {t u : Bool} {IL : zIL} {B : Nat → Nat} {n : Nat}
theorem c_fail {c s : Nat} {x : Int32} (hx : x = nI c) (h1 : IL.1 1 1 = 0) (h8 : IL.1 1 8 = nI s) (hQ : ∀ IL', (∀ c j, ¬ (c = 1 ∧ (j = 1 ∨ j = 2)) → IL'.1 c j = IL.1 c j) → IL'.2 = IL.2 → IL'.1 1 1 = nI c → IL'.1 1 2 = nI s → Q (zFx t, IL') none) : zcall xs (d + 1) 72 (zFx t, IL) [.ref 1, .int x] Q := by
  refine sX5_fail t x IL (zdec (fun _ => hQ _ (fun c j h => ?_) rfl ?_ ?_) (fun z => absurd h1 z))
  · by_cases e : c = 1
    · subst e
      rw [zwi_at, if_neg (by omega), zwi_at, if_neg (by omega)]
    · rw [zwi_ne e, zwi_ne e]
  · rw [zwi_at, if_neg (by decide), zwi_at, if_pos rfl]; exact hx
  · rw [zwi_at, if_pos rfl, zwi_at, if_neg (by decide)]; exact h8
theorem c_refuse {a : ytkT} (ht : ytC a IL) (hg : a.k ≤ 117) (h1 : IL.1 1 1 = 0) (hQ : ∀ IL', (∀ c j, ¬ (c = 1 ∧ (j = 1 ∨ j = 2)) → IL'.1 c j = IL.1 c j) → IL'.2 = IL.2 → IL'.1 1 1 = nI (yrf a) → IL'.1 1 2 = nI a.s → Q (zFx t, IL') none) : zcall xs (d + 2) 71 (zFx t, IL) [.ref 1] Q := by
  refine sX5_refuse t IL (zkn (c := 0) ht.1 rfl (by omega) (by decide) (fun h => c_fail (c := 1) rfl h1 ht.2.1 (fun IL' f f2 e1 e2 => kV (hQ IL' f f2 ?_ e2))) (fun h => c_fail (c := 2) rfl h1 ht.2.1 (fun IL' f f2 e1 e2 => kV (hQ IL' f f2 ?_ e2))))
  · unfold yrf; rw [if_pos h]; exact e1
  · unfold yrf; rw [if_neg h]; exact e1
theorem yff_f {A B : zIL} (f : ∀ c j, ¬ (c = 1 ∧ (j = 1 ∨ j = 2)) → B.1 c j = A.1 c j) (f2 : B.2 = A.2) : yff u A B := ⟨fun c j a _ _ => f c j (by omega), fun c j _ => by rw [f2]⟩
theorem yff_a {A B : zIL} (f : ∀ c j, ¬ (c = zH u + 4 ∧ j = 0) → c ≠ zH u + 6 → B.1 c j = A.1 c j) (f2 : B.2 = A.2) : yff u A B := ⟨fun c j _ b e => f c j (by omega) e, fun c j _ => by rw [f2]⟩
theorem ypX_f {p : yps} {A B' : zIL} {c : Nat} (h : ypC u B n p A) (hl : p.W.length ≤ 270) (f : ∀ c j, ¬ (c = 1 ∧ (j = 1 ∨ j = 2)) → B'.1 c j = A.1 c j) (e1 : B'.1 1 1 = nI c) (e2 : B'.1 1 2 = nI p.tk.s) : ypX u c p.tk.s B' := by
  have := zH_ge u
  exact ⟨e1, e2, _, hl, by rw [f _ _ (by omega)]; exact h.2.2.2.1⟩
/-- refused -/
theorem c_refuseP {p : yps} (hp : ypC u B n p IL) (hO : ytkO n p.tk) (hl : p.W.length ≤ 270) (hQ : ∀ IL', yff u IL IL' → ypP u B n (yrf p.tk, p) IL' → Q (zFx t, IL') none) : zcall xs (d + 2) 71 (zFx t, IL) [.ref 1] Q :=
  c_refuse hp.2.1 hO.2.2.2.2.2 hp.2.2.1 (fun IL' f f2 e1 e2 => hQ IL' (yff_f f f2) ⟨fun z => absurd z (yrf_2 _).2, fun _ => ypX_f hp hl f e1 e2⟩)
/-- the next token -/
theorem c_adv {p : yps} (hn : n ≤ 1600) (hB : ∀ j, j < n → B j < 256) (hp : ypC u B n p IL) (hO : ytkO n p.tk) (hQ : ∀ IL', yff u IL IL' → ypC u B n (yps.mk (ynt B n p.tk) p.W p.u) IL' → Q (zFx t, IL') none) : zcall xs (d + 5) 73 (zFx t, IL) [.ref 1] Q :=
  c_advance hn hB hp.1 hO.1.2.1 hp.2.1.2.2.1 hp.2.1.2.2.2.2.2 (fun IL' f ht => hQ IL' (yff_p f) ⟨ytp_fr hp.1 f, ht, by rw [f.1 1 1 (by omega)]; exact hp.2.2.1, ypfs_p hp.2.2.2 f⟩)
/-- a sign is taken -/
theorem c_takeP {p : yps} {x : Int32} {c : Nat} (hn : n ≤ 1600) (hB : ∀ j, j < n → B j < 256) (hx : x = nI c) (hc : c ≤ 117) (hp : ypC u B n p IL) (hO : ytkO n p.tk) (hl : p.W.length ≤ 270) (hQ : ∀ IL', yff u IL IL' → ypP u B n (if p.tk.k = c then (0, yps.mk (ynt B n p.tk) p.W p.u) else (yrf p.tk, p)) IL' → Q (zFx t, IL') none) : zcall xs (d + 6) 68 (zFx t, IL) [.ref 1, .int x] Q := by
  refine sX5_take t x IL (zdec (fun _ => zkn hp.2.1.1 hx (by have := hO.2.2.2.2.2; omega) (by omega) (fun h => c_adv hn hB hp hO (fun IL' f h' => kV (hQ IL' f ?_))) (fun h => c_refuseP hp hO hl (fun IL' f h' => kV (hQ IL' f ?_)))) (fun z => absurd hp.2.2.1 z))
  · rw [if_pos h]; exact ypP_ok h'
  · rw [if_neg h]; exact h'
/-- a fault stands: nothing is taken -/
theorem c_takeX {x : Int32} (h1 : IL.1 1 1 ≠ 0) (hQ : Q (zFx t, IL) none) : zcall xs (d + 1) 68 (zFx t, IL) [.ref 1, .int x] Q :=
  sX5_take t x IL (zdec (fun z => absurd z h1) (fun _ => hQ))
/-- a step more -/
theorem c_addS {p : yps} {x : Int32} (hp : ypC u B n p IL) (hl : p.W.length < 270) (hQ : ∀ IL', yff u IL IL' → ypC u B n (yps.mk p.tk (p.W ++ [x]) p.u) IL' → Q (zFx t, IL') none) : zcall xs (d + 1) 23 (zFx t, IL) [.ref (zH u + 4), .int x] Q := by
  have g := zH_ge u
  have h0 := hp.2.2.2.1
  refine sX1_addStep t u x IL ?_
  rw [h0]
  refine zd_t (n := 270) rfl hl (by decide) (zix_n hl (by decide) ?_)
  rw [ycl (by omega), zwi_ne (by omega), h0, nI_1]
  have fr : ∀ c j, ¬ (c = zH u + 4 ∧ j = 0) → c ≠ zH u + 6 → (zwi (zwi IL (zH u + 6) p.W.length x) (zH u + 4) 0 (nI (p.W.length + 1))).1 c j = IL.1 c j := fun c j h h6 => by
    by_cases e : c = zH u + 4
    · subst e
      rw [zwi_at, if_neg (by omega), zwi_ne (by omega)]
    · rw [zwi_ne e, zwi_ne h6]
  refine hQ _ (yff_a fr rfl) ⟨⟨by rw [fr 1 _ (by omega) (by omega)]; exact hp.1.1, fun j hj => by rw [fr 2 _ (by omega) (by omega)]; exact hp.1.2.1 j hj, hp.1.2.2⟩, ⟨by rw [fr 1 _ (by omega) (by omega)]; exact hp.2.1.1, by rw [fr 1 _ (by omega) (by omega)]; exact hp.2.1.2.1, by rw [fr 1 _ (by omega) (by omega)]; exact hp.2.1.2.2.1, fun z => by rw [fr 1 _ (by omega) (by omega)]; exact hp.2.1.2.2.2.1 z, hp.2.1.2.2.2.2.1, by rw [fr 1 _ (by omega) (by omega)]; exact hp.2.1.2.2.2.2.2⟩, by rw [fr 1 _ (by omega) (by omega)]; exact hp.2.2.1, ?_, ?_, fun j hj => ?_⟩
  · rw [zwi_at, if_pos rfl]
    show _ = nI (p.W ++ [x]).length
    rw [List.length_append]; rfl
  · rw [fr _ 1 (by omega) (by omega)]; exact hp.2.2.2.2.1
  · have hj' : j < p.W.length + 1 := by
      have : j < (p.W ++ [x]).length := hj
      rw [List.length_append] at this
      exact this
    show _ = (p.W ++ [x]).getD j 0
    rw [zwi_ne (by omega), zwi_at]
    by_cases e : j = p.W.length
    · subst e
      rw [if_pos rfl, ygd_l]
    · rw [if_neg e, ygd_a p.W _ j (by omega)]
      exact hp.2.2.2.2.2 j (by omega)
/-- a step behind a fault -/
theorem c_addX {c s : Nat} {x : Int32} (hp : ypX u c s IL) (hQ : ∀ IL', yff u IL IL' → ypX u c s IL' → Q (zFx t, IL') none) : zcall xs (d + 1) 23 (zFx t, IL) [.ref (zH u + 4), .int x] Q := by
  have g := zH_ge u
  obtain ⟨e1, e2, L, hL, h0⟩ := hp
  refine sX1_addStep t u x IL ?_
  rw [h0]
  rcases Nat.lt_or_ge L 270 with q | q
  · refine zd_t (n := 270) rfl q (by decide) (zix_n q (by decide) ?_)
    rw [ycl (by omega), zwi_ne (by omega), h0, nI_1]
    have fr : ∀ c j, ¬ (c = zH u + 4 ∧ j = 0) → c ≠ zH u + 6 → (zwi (zwi IL (zH u + 6) L x) (zH u + 4) 0 (nI (L + 1))).1 c j = IL.1 c j := fun c j h h6 => by
      by_cases e : c = zH u + 4
      · subst e
        rw [zwi_at, if_neg (by omega), zwi_ne (by omega)]
      · rw [zwi_ne e, zwi_ne h6]
    exact hQ _ (yff_a fr rfl) ⟨by rw [fr 1 _ (by omega) (by omega)]; exact e1, by rw [fr 1 _ (by omega) (by omega)]; exact e2, L + 1, by omega, by rw [zwi_at, if_pos rfl]⟩
  · exact zd_f (n := 270) rfl q (by omega) (hQ IL yff_rf ⟨e1, e2, L, hL, h0⟩)
/-- a method of the class follows that part of the descent -/
def ycX (B : Nat → Nat) (n id base r : Nat) (F : yRF) : Prop := ∀ (xs : List Int32) (D : Nat) (Q : zQ) (t u : Bool) (IL : zIL) (p : yps) (x : Int32), base ≤ D → x = nI (7 - r) → ypC u B n p IL → ytkO n p.tk → p.W.length ≤ 9 * p.u → p.u ≤ 30 → (∀ IL', yff u IL IL' → ypP u B n (F p) IL' → Q (zFx t, IL') none) → zcall xs D id (zFx t, IL) [.ref 1, .ref (zH u + 4), .int x] Q
/-- a sign, what stands behind it, and its step -/
def yb2 (B : Nat → Nat) (n : Nat) (F : yRF) (p : yps) : Nat × yps := if (F (yps.mk (ynt B n p.tk) p.W p.u)).1 = 0 then (0, yps.mk (F (yps.mk (ynt B n p.tk) p.W p.u)).2.tk ((F (yps.mk (ynt B n p.tk) p.W p.u)).2.W ++ [-(nI p.tk.k)]) (F (yps.mk (ynt B n p.tk) p.W p.u)).2.u) else F (yps.mk (ynt B n p.tk) p.W p.u)
theorem c_bin {id base r c D : Nat} {F : yRF} {p : yps} {x y : Int32} {K : zIL → Prop} (hn : n ≤ 1600) (hB : ∀ j, j < n → B j < 256) (hF : ycX B n id base r F) (hb : yBB n c F) (hc : 1 ≤ c) (h5 : 5 ≤ D) (hD : base ≤ D) (hx : x = nI (7 - r)) (hy : y = -(nI p.tk.k)) (hp : ypC u B n p IL) (hO : ytkO n p.tk) (hl : p.W.length ≤ 9 * p.u) (hu : p.u ≤ 30) (hK : ∀ IL', yff u IL IL' → ypP u B n (yb2 B n F p) IL' → K IL') : zcall xs D 73 (zFx t, IL) [.ref 1] (zkV (zFx t) fun IL1 => zcall xs D id (zFx t, IL1) [.ref 1, .ref (zH u + 4), .int x] (zkV (zFx t) fun IL2 => zcall xs D 23 (zFx t, IL2) [.ref (zH u + 4), .int y] (zkV (zFx t) fun IL3 => K IL3))) := by
  obtain ⟨D', e⟩ : ∃ D', D = D' + 5 := ⟨D - 5, by omega⟩
  subst e
  have hO' := ytkO_nt hB hO
  refine c_adv hn hB hp hO (fun I1 f1 h1 => kV ?_)
  refine hF xs _ _ t u I1 (yps.mk (ynt B n p.tk) p.W p.u) x hD hx h1 hO' hl hu (fun I2 f2 h2 => kV ?_)
  have b := hb (yps.mk (ynt B n p.tk) p.W p.u) hO'
  unfold yb2 at hK
  generalize F (yps.mk (ynt B n p.tk) p.W p.u) = e at b h2 hK ⊢
  by_cases h0 : e.1 = 0
  · rw [if_pos h0] at hK
    obtain ⟨V, k, a1, a2, a3, a4, a5, a6⟩ := b.2.2 h0
    have a1' : e.2.W = p.W ++ V := a1
    have a4' : p.u + k ≤ 30 := a4
    refine c_addS (d := D' + 4) (h2.1 h0) (by rw [a1', List.length_append]; omega) (fun I3 f3 h3 => kV (hK I3 (yff_tr f1 (yff_tr f2 f3)) ?_))
    rw [hy] at h3
    exact ypP_ok h3
  · rw [if_neg h0] at hK
    exact c_addX (d := D' + 4) (h2.2 h0) (fun I3 f3 h3 => kV (hK I3 (yff_tr f1 (yff_tr f2 f3)) ⟨fun z => absurd z h0, fun _ => h3⟩))
/-- a state that went well, with its bounds -/
theorem yb_len {c : Nat} {F : yRF} {p : yps} (hb : yBB n c F) (hO : ytkO n p.tk) (hl : p.W.length ≤ 9 * p.u) (h0 : (F p).1 = 0) : (F p).2.W.length + c ≤ 9 * (F p).2.u ∧ (F p).2.u ≤ 30 := by
  obtain ⟨V, k, a1, a2, a3, a4, a5, a6⟩ := (hb p hO).2.2 h0
  rw [a1, a2, List.length_append]
  omega
theorem yb2_len {c : Nat} {F : yRF} {p : yps} (hB : ∀ j, j < n → B j < 256) (hb : yBB n c F) (hc : 1 ≤ c) (hO : ytkO n p.tk) (hl : p.W.length ≤ 9 * p.u) : ytkO n (yb2 B n F p).2.tk ∧ ((yb2 B n F p).1 = 0 → (yb2 B n F p).2.W.length ≤ 9 * (yb2 B n F p).2.u ∧ (yb2 B n F p).2.u ≤ 30) ∧ (yb2 B n F p).1 ≤ 2 := by
  have hO' := ytkO_nt hB hO
  have b := hb (yps.mk (ynt B n p.tk) p.W p.u) hO'
  unfold yb2
  have z := yb_len (p := yps.mk (ynt B n p.tk) p.W p.u) hb hO' hl
  generalize F (yps.mk (ynt B n p.tk) p.W p.u) = e at b z ⊢
  by_cases h0 : e.1 = 0
  · rw [if_pos h0]
    refine ⟨b.1, fun _ => ⟨?_, (z h0).2⟩, Nat.zero_le _⟩
    show (e.2.W ++ [-(nI p.tk.k)]).length ≤ 9 * e.2.u
    rw [List.length_append]
    have := (z h0).1
    show e.2.W.length + 1 ≤ _
    omega
  · rw [if_neg h0]
    exact ⟨b.1, fun q => absurd q h0, b.2.1⟩
theorem yLo_s {is : Nat → Bool} {F : yRF} {k : Nat} {p : yps} (h : is p.tk.k = true) : yLo B n is F (k + 1) p = if (yb2 B n F p).1 = 0 then yLo B n is F k (yb2 B n F p).2 else yb2 B n F p := by
  rw [yLo, yb2]
  simp only [if_pos h]
  generalize F (yps.mk (ynt B n p.tk) p.W p.u) = e
  by_cases h0 : e.1 = 0
  · simp only [if_pos h0]; rfl
  · simp only [if_neg h0]
theorem yLo_n {is : Nat → Bool} {F : yRF} {k : Nat} {p : yps} (h : ¬ is p.tk.k = true) : yLo B n is F k p = (0, p) := by
  cases k with
  | zero => rfl
  | succ k => rw [yLo]; simp only [if_neg h]
theorem nI_ne {c : Nat} (h : c ≠ 0) (hc : c ≤ 4000) : nI c ≠ 0 := fun z => h ((nI_eq (b := 0) (by omega) (by decide)).mp z)
/-- the loops' common frame: what a run from the loop's head must bring -/
def yLp (B : Nat → Nat) (n c : Nat) (is : Nat → Bool) (F : yRF) (u : Bool) (G : Nat → zIL → Prop) (q : zIL → Prop) : Prop :=
  (∀ i IL p, i < 1600 → ypC u B n p IL → ytkO n p.tk → p.W.length ≤ 9 * p.u → p.u ≤ 30 → is p.tk.k = true → (∀ IL', yff u IL IL' → ypP u B n (yb2 B n F p) IL' → G (i + 1) IL') → G i IL) ∧
  (∀ i IL p, i ≤ 1600 → ypC u B n p IL → ytkO n p.tk → (i < 1600 → ¬ is p.tk.k = true) → q IL → G i IL) ∧
  (∀ i IL, i ≤ 1600 → IL.1 1 1 ≠ 0 → q IL → G i IL)
theorem yLp_run {c : Nat} {is : Nat → Bool} {F : yRF} {G : Nat → zIL → Prop} {IL0 : zIL} (hB : ∀ j, j < n → B j < 256) (hb : yBB n c F) (hc : 1 ≤ c) {q : zIL → Prop} (hG : yLp B n c is F u G q) : ∀ (k i : Nat) (IL : zIL) (p : yps), i + k = 1600 → yff u IL0 IL → ypC u B n p IL → ytkO n p.tk → p.W.length ≤ 9 * p.u → p.u ≤ 30 → (∀ IL', yff u IL0 IL' → ypP u B n (yLo B n is F k p) IL' → q IL') → G i IL := by
  intro k
  induction k with
  | zero =>
    intro i IL p hi fr hp hO hl hu hQ
    exact hG.2.1 i IL p (by omega) hp hO (fun z => by omega) (hQ IL fr (ypP_ok hp))
  | succ k ih =>
    intro i IL p hi fr hp hO hl hu hQ
    by_cases h : is p.tk.k = true
    · rw [yLo_s h] at hQ
      refine hG.1 i IL p (by omega) hp hO hl hu h (fun I1 f1 h1 => ?_)
      have z := yb2_len (B := B) hB hb hc hO hl
      generalize yb2 B n F p = e at h1 z hQ
      by_cases h0 : e.1 = 0
      · rw [if_pos h0] at hQ
        exact ih (i + 1) I1 e.2 (by omega) (yff_tr fr f1) (h1.1 h0) z.1 (z.2.1 h0).1 (z.2.1 h0).2 hQ
      · rw [if_neg h0] at hQ
        refine hG.2.2 (i + 1) I1 (by omega) ?_ (hQ I1 (yff_tr fr f1) h1)
        rw [(h1.2 h0).1]
        exact nI_ne h0 (by omega)
    · rw [yLo_n h] at hQ
      exact hG.2.1 i IL p (by omega) hp hO (fun _ => h) (hQ IL fr (ypP_ok hp))
theorem c_term {r : Nat} {E : yRF} (hn : n ≤ 1600) (hB : ∀ j, j < n → B j < 256) (hE : 0 < r → yBB n 1 E) (hU : ycX B n 66 (6 * r + 6) r (yUn B n E r)) : ycX B n 65 (6 * r + 7) r (yTe B n E r) := by
  intro xs D Q t u IL p x hD hx hp hO hl hu hQ
  obtain ⟨D, rfl⟩ : ∃ D', D = D' + 1 := ⟨D - 1, by omega⟩
  have hb : yBB n 8 (yUn B n E r) := yUn_B hB hE
  refine sX5_term t u x IL (hU xs D _ t u IL p x (by omega) hx hp hO hl hu (fun I1 f1 h1 => kV ?_))
  have G : yLp B n 8 ymul (yUn B n E r) u (fun i IL => ∀ w, gX5_term xs D Q 8 [.ref 1, .ref (zH u + 4), .int x, .int (nI i), w] [] (zFx t, IL)) (fun IL => Q (zFx t, IL) none) := by
    refine ⟨fun i IL p hi hp hO hl hu h hK w => ?_, fun i IL p hi hp hO h hq w => ?_, fun i IL hi h hq w => ?_⟩
    · have nx : ∀ IL', yff u IL IL' → ypP u B n (yb2 B n (yUn B n E r) p) IL' → gX5_term xs D Q 8 [.ref 1, .ref (zH u + 4), .int x, .int (nI i + 1), .int (IL.1 1 7)] [] (zFx t, IL') := fun IL' a b => by
        rw [nI_1]
        exact hK IL' a b _
      have k1 := hp.2.1.1
      have k2 := hO.2.2.2.2.2
      have k3 : p.tk.k = 42 ∨ p.tk.k = 47 ∨ p.tk.k = 37 := of_decide_eq_true h
      refine sX5_term_8 t u x _ w IL (zd_t (n := 1600) rfl hi (by decide) (zdec (fun _ => zkn (c := 42) k1 rfl (by omega) (by decide) (fun _ => ?_) (fun n1 => zkn (c := 47) k1 rfl (by omega) (by decide) (fun _ => ?_) (fun n2 => zkn (c := 37) k1 rfl (by omega) (by decide) (fun _ => ?_) (fun n3 => by omega)))) (fun z => absurd hp.2.2.1 z)))
      · exact c_bin hn hB hU hb (by decide) (by omega) (by omega) hx (by rw [k1]) hp hO hl hu nx
      · exact c_bin hn hB hU hb (by decide) (by omega) (by omega) hx (by rw [k1]) hp hO hl hu nx
      · exact c_bin hn hB hU hb (by decide) (by omega) (by omega) hx (by rw [k1]) hp hO hl hu nx
    · have k1 := hp.2.1.1
      have k2 := hO.2.2.2.2.2
      refine sX5_term_8 t u x _ w IL ?_
      rcases Nat.lt_or_ge i 1600 with q | q
      · have h' : ¬ (p.tk.k = 42 ∨ p.tk.k = 47 ∨ p.tk.k = 37) := fun z => h q (decide_eq_true z)
        exact zd_t (n := 1600) rfl q (by decide) (zdec (fun _ => zkn (c := 42) k1 rfl (by omega) (by decide) (fun z => by omega) (fun n1 => zkn (c := 47) k1 rfl (by omega) (by decide) (fun z => by omega) (fun n2 => zkn (c := 37) k1 rfl (by omega) (by decide) (fun z => by omega) (fun n3 => hq)))) (fun z => absurd hp.2.2.1 z))
      · exact zd_f (n := 1600) rfl q (by omega) hq
    · refine sX5_term_8 t u x _ w IL ?_
      rcases Nat.lt_or_ge i 1600 with q | q
      · exact zd_t (n := 1600) rfl q (by decide) (zdec (fun z => absurd z h) (fun _ => hq))
      · exact zd_f (n := 1600) rfl q (by omega) hq
  unfold yTe ypLv at hQ
  by_cases h0 : (yUn B n E r p).1 = 0
  · simp only [if_pos h0] at hQ
    have z := yb_len hb hO hl h0
    exact yLp_run hB hb (by decide) G 1600 0 I1 _ rfl f1 (h1.1 h0) (hb p hO).1 (by omega) z.2 hQ _
  · simp only [if_neg h0] at hQ
    exact G.2.2 0 I1 (by decide) (by rw [(h1.2 h0).1]; exact nI_ne h0 (by have := (hb p hO).2.1; omega)) (hQ I1 f1 h1) _
theorem c_sum {r : Nat} {E : yRF} (hn : n ≤ 1600) (hB : ∀ j, j < n → B j < 256) (hE : 0 < r → yBB n 1 E) (hU : ycX B n 65 (6 * r + 7) r (yTe B n E r)) : ycX B n 64 (6 * r + 8) r (ySu B n E r) := by
  intro xs D Q t u IL p x hD hx hp hO hl hu hQ
  obtain ⟨D, rfl⟩ : ∃ D', D = D' + 1 := ⟨D - 1, by omega⟩
  have hb : yBB n 8 (yTe B n E r) := yTe_B hB hE
  refine sX5_sum t u x IL (hU xs D _ t u IL p x (by omega) hx hp hO hl hu (fun I1 f1 h1 => kV ?_))
  have G : yLp B n 8 yadd (yTe B n E r) u (fun i IL => ∀ w, gX5_sum xs D Q 8 [.ref 1, .ref (zH u + 4), .int x, .int (nI i), w] [] (zFx t, IL)) (fun IL => Q (zFx t, IL) none) := by
    refine ⟨fun i IL p hi hp hO hl hu h hK w => ?_, fun i IL p hi hp hO h hq w => ?_, fun i IL hi h hq w => ?_⟩
    · have nx : ∀ IL', yff u IL IL' → ypP u B n (yb2 B n (yTe B n E r) p) IL' → gX5_sum xs D Q 8 [.ref 1, .ref (zH u + 4), .int x, .int (nI i + 1), .int (IL.1 1 7)] [] (zFx t, IL') := fun IL' a b => by
        rw [nI_1]
        exact hK IL' a b _
      have k1 := hp.2.1.1
      have k2 := hO.2.2.2.2.2
      have k3 : p.tk.k = 43 ∨ p.tk.k = 45 := of_decide_eq_true h
      refine sX5_sum_8 t u x _ w IL (zd_t (n := 1600) rfl hi (by decide) (zdec (fun _ => zkn (c := 43) k1 rfl (by omega) (by decide) (fun _ => ?_) (fun n1 => zkn (c := 45) k1 rfl (by omega) (by decide) (fun _ => ?_) (fun n2 => by omega))) (fun z => absurd hp.2.2.1 z)))
      · exact c_bin hn hB hU hb (by decide) (by omega) (by omega) hx (by rw [k1]) hp hO hl hu nx
      · exact c_bin hn hB hU hb (by decide) (by omega) (by omega) hx (by rw [k1]) hp hO hl hu nx
    · have k1 := hp.2.1.1
      have k2 := hO.2.2.2.2.2
      refine sX5_sum_8 t u x _ w IL ?_
      rcases Nat.lt_or_ge i 1600 with q | q
      · have h' : ¬ (p.tk.k = 43 ∨ p.tk.k = 45) := fun z => h q (decide_eq_true z)
        exact zd_t (n := 1600) rfl q (by decide) (zdec (fun _ => zkn (c := 43) k1 rfl (by omega) (by decide) (fun z => by omega) (fun n1 => zkn (c := 45) k1 rfl (by omega) (by decide) (fun z => by omega) (fun n2 => hq))) (fun z => absurd hp.2.2.1 z))
      · exact zd_f (n := 1600) rfl q (by omega) hq
    · refine sX5_sum_8 t u x _ w IL ?_
      rcases Nat.lt_or_ge i 1600 with q | q
      · exact zd_t (n := 1600) rfl q (by decide) (zdec (fun z => absurd z h) (fun _ => hq))
      · exact zd_f (n := 1600) rfl q (by omega) hq
  unfold ySu ypLv at hQ
  by_cases h0 : (yTe B n E r p).1 = 0
  · simp only [if_pos h0] at hQ
    have z := yb_len hb hO hl h0
    exact yLp_run hB hb (by decide) G 1600 0 I1 _ rfl f1 (h1.1 h0) (hb p hO).1 (by omega) z.2 hQ _
  · simp only [if_neg h0] at hQ
    exact G.2.2 0 I1 (by decide) (by rw [(h1.2 h0).1]; exact nI_ne h0 (by have := (hb p hO).2.1; omega)) (hQ I1 f1 h1) _
theorem c_both {r c : Nat} {o : yRF} (hn : n ≤ 1600) (hB : ∀ j, j < n → B j < 256) (hb : yBB n c o) (hc : 1 ≤ c) (hU : ycX B n 63 (6 * r + 9) r o) : ycX B n 62 (6 * r + 10) r (yBo B n o) := by
  intro xs D Q t u IL p x hD hx hp hO hl hu hQ
  obtain ⟨D, rfl⟩ : ∃ D', D = D' + 1 := ⟨D - 1, by omega⟩
  refine sX5_both t u x IL (hU xs D _ t u IL p x (by omega) hx hp hO hl hu (fun I1 f1 h1 => kV ?_))
  have G : yLp B n c yan o u (fun i IL => gX5_both xs D Q 8 [.ref 1, .ref (zH u + 4), .int x, .int (nI i)] [] (zFx t, IL)) (fun IL => Q (zFx t, IL) none) := by
    refine ⟨fun i IL p hi hp hO hl hu h hK => ?_, fun i IL p hi hp hO h hq => ?_, fun i IL hi h hq => ?_⟩
    · have nx : ∀ IL', yff u IL IL' → ypP u B n (yb2 B n o p) IL' → gX5_both xs D Q 8 [.ref 1, .ref (zH u + 4), .int x, .int (nI i + 1)] [] (zFx t, IL') := fun IL' a b => by
        rw [nI_1]
        exact hK IL' a b
      have k1 := hp.2.1.1
      have k2 := hO.2.2.2.2.2
      have k3 : p.tk.k = 110 := of_decide_eq_true h
      refine sX5_both_8 t u x _ IL (zd_t (n := 1600) rfl hi (by decide) (zdec (fun _ => zkn (c := 110) k1 rfl (by omega) (by decide) (fun _ => ?_) (fun n1 => by omega)) (fun z => absurd hp.2.2.1 z)))
      exact c_bin hn hB hU hb hc (by omega) (by omega) hx (by rw [k3]; rfl) hp hO hl hu nx
    · have k1 := hp.2.1.1
      have k2 := hO.2.2.2.2.2
      refine sX5_both_8 t u x _ IL ?_
      rcases Nat.lt_or_ge i 1600 with q | q
      · have h' : ¬ (p.tk.k = 110) := fun z => h q (decide_eq_true z)
        exact zd_t (n := 1600) rfl q (by decide) (zdec (fun _ => zkn (c := 110) k1 rfl (by omega) (by decide) (fun z => by omega) (fun n1 => hq)) (fun z => absurd hp.2.2.1 z))
      · exact zd_f (n := 1600) rfl q (by omega) hq
    · refine sX5_both_8 t u x _ IL ?_
      rcases Nat.lt_or_ge i 1600 with q | q
      · exact zd_t (n := 1600) rfl q (by decide) (zdec (fun z => absurd z h) (fun _ => hq))
      · exact zd_f (n := 1600) rfl q (by omega) hq
  unfold yBo ypLv at hQ
  by_cases h0 : (o p).1 = 0
  · simp only [if_pos h0] at hQ
    have z := yb_len hb hO hl h0
    exact yLp_run hB hb hc G 1600 0 I1 _ rfl f1 (h1.1 h0) (hb p hO).1 (by omega) z.2 hQ
  · simp only [if_neg h0] at hQ
    exact G.2.2 0 I1 (by decide) (by rw [(h1.2 h0).1]; exact nI_ne h0 (by have := (hb p hO).2.1; omega)) (hQ I1 f1 h1)
theorem c_either {r c : Nat} {o : yRF} (hn : n ≤ 1600) (hB : ∀ j, j < n → B j < 256) (hb : yBB n c o) (hc : 1 ≤ c) (hU : ycX B n 62 (6 * r + 10) r o) : ycX B n 61 (6 * r + 11) r (ypLv B n yor o) := by
  intro xs D Q t u IL p x hD hx hp hO hl hu hQ
  obtain ⟨D, rfl⟩ : ∃ D', D = D' + 1 := ⟨D - 1, by omega⟩
  refine sX5_either t u x IL (hU xs D _ t u IL p x (by omega) hx hp hO hl hu (fun I1 f1 h1 => kV ?_))
  have G : yLp B n c yor o u (fun i IL => gX5_either xs D Q 8 [.ref 1, .ref (zH u + 4), .int x, .int (nI i)] [] (zFx t, IL)) (fun IL => Q (zFx t, IL) none) := by
    refine ⟨fun i IL p hi hp hO hl hu h hK => ?_, fun i IL p hi hp hO h hq => ?_, fun i IL hi h hq => ?_⟩
    · have nx : ∀ IL', yff u IL IL' → ypP u B n (yb2 B n o p) IL' → gX5_either xs D Q 8 [.ref 1, .ref (zH u + 4), .int x, .int (nI i + 1)] [] (zFx t, IL') := fun IL' a b => by
        rw [nI_1]
        exact hK IL' a b
      have k1 := hp.2.1.1
      have k2 := hO.2.2.2.2.2
      have k3 : p.tk.k = 109 := of_decide_eq_true h
      refine sX5_either_8 t u x _ IL (zd_t (n := 1600) rfl hi (by decide) (zdec (fun _ => zkn (c := 109) k1 rfl (by omega) (by decide) (fun _ => ?_) (fun n1 => by omega)) (fun z => absurd hp.2.2.1 z)))
      exact c_bin hn hB hU hb hc (by omega) (by omega) hx (by rw [k3]; rfl) hp hO hl hu nx
    · have k1 := hp.2.1.1
      have k2 := hO.2.2.2.2.2
      refine sX5_either_8 t u x _ IL ?_
      rcases Nat.lt_or_ge i 1600 with q | q
      · have h' : ¬ (p.tk.k = 109) := fun z => h q (decide_eq_true z)
        exact zd_t (n := 1600) rfl q (by decide) (zdec (fun _ => zkn (c := 109) k1 rfl (by omega) (by decide) (fun z => by omega) (fun n1 => hq)) (fun z => absurd hp.2.2.1 z))
      · exact zd_f (n := 1600) rfl q (by omega) hq
    · refine sX5_either_8 t u x _ IL ?_
      rcases Nat.lt_or_ge i 1600 with q | q
      · exact zd_t (n := 1600) rfl q (by decide) (zdec (fun z => absurd z h) (fun _ => hq))
      · exact zd_f (n := 1600) rfl q (by omega) hq
  unfold ypLv at hQ
  by_cases h0 : (o p).1 = 0
  · simp only [if_pos h0] at hQ
    have z := yb_len hb hO hl h0
    exact yLp_run hB hb hc G 1600 0 I1 _ rfl f1 (h1.1 h0) (hb p hO).1 (by omega) z.2 hQ
  · simp only [if_neg h0] at hQ
    exact G.2.2 0 I1 (by decide) (by rw [(h1.2 h0).1]; exact nI_ne h0 (by have := (hb p hO).2.1; omega)) (hQ I1 f1 h1)
end CFORM
