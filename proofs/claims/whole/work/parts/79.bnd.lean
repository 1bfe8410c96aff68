/-! what the descent writes: bounds and order of its steps; tokens of a tape -/
def ytkg (a : ytkT) : Prop := (a.k = 2 → a.n < 10000) ∧ ((a.k = 3 ∨ 100 ≤ a.k) → ywd1 a.w) ∧ (100 ≤ a.k → a.w = ykw.getD (a.k - 100) []) ∧ (a.k = 3 → ∀ i, i < 18 → ykw.getD i [] ≠ a.w) ∧ a.k ≤ 117
theorem ykx_e {w : List Nat} : ∀ (m i : Nat), (∀ j, ykx w m i = some j → i ≤ j ∧ j < i + m ∧ ykw.getD j [] = w) ∧ (ykx w m i = none → ∀ j, i ≤ j → j < i + m → ykw.getD j [] ≠ w)
  | 0, i => ⟨fun j h => (by unfold ykx at h; cases h), fun _ j h1 h2 => by omega⟩
  | m + 1, i => by
    unfold ykx
    by_cases h : ykw.getD i [] = w
    · rw [if_pos h]
      refine ⟨fun j q => ?_, fun q => by cases q⟩
      have : i = j := Option.some.inj q
      subst this
      exact ⟨Nat.le_refl _, by omega, h⟩
    · rw [if_neg h]
      obtain ⟨a, b⟩ := ykx_e (w := w) m (i + 1)
      refine ⟨fun j q => ?_, fun q j h1 h2 => ?_⟩
      · have := a j q
        exact ⟨by omega, by omega, this.2.2⟩
      · by_cases e : j = i
        · rw [e]; exact h
        · exact b q j (by omega) (by omega)
theorem yknd_e (w : List Nat) : (yknd w = 3 ∧ ∀ i, i < 18 → ykw.getD i [] ≠ w) ∨ (100 ≤ yknd w ∧ yknd w ≤ 117 ∧ w = ykw.getD (yknd w - 100) []) := by
  obtain ⟨a, b⟩ := ykx_e (w := w) 18 0
  unfold yknd
  cases h : ykx w 18 0 with
  | none => exact Or.inl ⟨rfl, fun i hi => b h i (by omega) (by omega)⟩
  | some i =>
    have := a i h
    refine Or.inr ⟨?_, ?_, ?_⟩
    · show 100 ≤ 100 + i; omega
    · show 100 + i ≤ 117; omega
    · show w = ykw.getD (100 + i - 100) []
      rw [show 100 + i - 100 = i by omega]
      exact this.2.2.symm
theorem ynum_lt {B : Nat → Nat} : ∀ (s m : Nat), (∀ j, j < m → ydig (B (s + j)) = true) → ynum B s m < 10 ^ m
  | _, 0, _ => by show 0 < 10 ^ 0; decide
  | s, m + 1, h => by
    have ih := ynum_lt s m (fun j hj => h j (by omega))
    have a := h m (by omega)
    unfold ydig at a
    rw [Bool.and_eq_true_iff] at a
    have := of_decide_eq_true a.2
    rw [ynum, Nat.pow_succ]
    omega
theorem ytkg_tok {B : Nat → Nat} {n p : Nat} (hB : ∀ j, j < n → B j < 256) : ytkg (ytok B n p) := by
  unfold ytok
  generalize yE yspc B n p = s
  unfold ytk1
  split
  · rename_i hs
    split
    · split
      · exact ⟨fun h => absurd (show (0 : Nat) = 2 from h) (by decide), fun h => absurd (show (0 : Nat) = 3 ∨ 100 ≤ 0 from h) (by decide), fun h => absurd (show 100 ≤ 0 from h) (by decide), fun h => absurd (show (0 : Nat) = 3 from h) (by decide), by show (0 : Nat) ≤ 117; decide⟩
      · rename_i h8
        have hw : ywd1 (yltr B s (yE ylet B n s - s)) := ⟨by rw [yltr_len]; omega, fun x hx => yltr_in s _ (fun j hj => yE_p (n := n) (i := s) (by omega) (by omega)) x hx⟩
        generalize yltr B s (yE ylet B n s - s) = w at hw
        rcases yknd_e w with q | q
        · refine ⟨fun h => ?_, fun _ => hw, fun h => ?_, fun _ => q.2, ?_⟩
          · have : yknd w = 2 := h; omega
          · have : 100 ≤ yknd w := h; omega
          · show yknd w ≤ 117; omega
        · refine ⟨fun h => ?_, fun _ => hw, fun _ => q.2.2, fun h => ?_, q.2.1⟩
          · have : yknd w = 2 := h; omega
          · have : yknd w = 3 := h; omega
    · split
      · split
        · exact ⟨fun h => absurd (show (0 : Nat) = 2 from h) (by decide), fun h => absurd (show (0 : Nat) = 3 ∨ 100 ≤ 0 from h) (by decide), fun h => absurd (show 100 ≤ 0 from h) (by decide), fun h => absurd (show (0 : Nat) = 3 from h) (by decide), by show (0 : Nat) ≤ 117; decide⟩
        · rename_i h4
          refine ⟨fun _ => ?_, fun h => absurd (show (2 : Nat) = 3 ∨ 100 ≤ 2 from h) (by decide), fun h => absurd (show 100 ≤ 2 from h) (by decide), fun h => absurd (show (2 : Nat) = 3 from h) (by decide), by show (2 : Nat) ≤ 117; decide⟩
          show ynum B s (yE ydig B n s - s) < 10000
          have h5 : ¬ 4 < yE ydig B n s - s := fun q => h4 (Or.inl q)
          refine Nat.lt_of_lt_of_le (ynum_lt s _ (fun j hj => yE_p (n := n) (i := s) (by omega) (by omega))) ?_
          exact Nat.pow_le_pow_right (n := 10) (j := 4) (by decide) (by omega)
      · split
        · rename_i hg
          have sg : ∀ b, b < 256 → ysig b = true → b ≠ 2 ∧ ¬ (b = 3 ∨ 100 ≤ b) ∧ ¬ 100 ≤ b ∧ b ≠ 3 ∧ b ≤ 117 := by decide +kernel
          obtain ⟨a1, a2, a3, a4, a5⟩ := sg (B s) (hB s hs) hg
          exact ⟨fun h => absurd h a1, fun h => absurd h a2, fun h => absurd h a3, fun h => absurd h a4, a5⟩
        · exact ⟨fun h => absurd (show (0 : Nat) = 2 from h) (by decide), fun h => absurd (show (0 : Nat) = 3 ∨ 100 ≤ 0 from h) (by decide), fun h => absurd (show 100 ≤ 0 from h) (by decide), fun h => absurd (show (0 : Nat) = 3 from h) (by decide), by show (0 : Nat) ≤ 117; decide⟩
  · exact ⟨fun h => absurd (show (1 : Nat) = 2 from h) (by decide), fun h => absurd (show (1 : Nat) = 3 ∨ 100 ≤ 1 from h) (by decide), fun h => absurd (show 100 ≤ 1 from h) (by decide), fun h => absurd (show (1 : Nat) = 3 from h) (by decide), by show (1 : Nat) ≤ 117; decide⟩
/-- a token of the tape -/
def ytkO (n : Nat) (a : ytkT) : Prop := ytko n a ∧ ytkg a
theorem ytkO_nt {B : Nat → Nat} {n : Nat} {a : ytkT} (hB : ∀ j, j < n → B j < 256) (h : ytkO n a) : ytkO n (ynt B n a) := ⟨(ytko_tok h.1.2.1).1, ytkg_tok hB⟩
/-- steps that bring one value with k units -/
def yvok (V : List Int32) (k : Nat) : Prop := (∀ s, s ∈ V → s < 0 → -s < 112 → ¬ -s = 111 → ybin (-s)) ∧ (∀ rest h, h + k ≤ 30 → zwf rest (h + 1) → zwf (V ++ rest) h) ∧ (∀ g rest h f, ∃ f', zev g (V ++ rest) (h, f) = zev g rest (h + 1, f'))
def yvol (V : List Int32) (k : Nat) : Prop := (∀ s, s ∈ V → s < 0 → -s < 112 → ¬ -s = 111 → ybin (-s)) ∧ (∀ rest h, 1 ≤ h → h + k ≤ 30 → zwf rest h → zwf (V ++ rest) h) ∧ (∀ g rest h f, 1 ≤ h → ∃ f', zev g (V ++ rest) (h, f) = zev g rest (h, f'))
theorem yop_s {k : Nat} (h : yop k = true) : (-(nI k) : Int32) < 0 ∧ -(-(nI k)) < 112 ∧ ¬ -(-(nI k)) = 111 ∧ ybin (-(-(nI k))) := by
  have : k = 109 ∨ k = 110 ∨ k = 60 ∨ k = 62 ∨ k = 61 ∨ k = 43 ∨ k = 45 ∨ k = 42 ∨ k = 47 ∨ k = 37 := of_decide_eq_true h
  unfold ybin
  rcases this with rfl | rfl | rfl | rfl | rfl | rfl | rfl | rfl | rfl | rfl <;> decide
theorem yinp_s {k : Nat} (h : yinp k = true) : (-(nI k) : Int32) < 0 ∧ ¬ -(-(nI k)) < 112 ∧ ¬ (117 : Int32) < -(-(nI k)) := by
  have a : 112 ≤ k ∧ k ≤ 117 := of_decide_eq_true h
  have : k = 112 ∨ k = 113 ∨ k = 114 ∨ k = 115 ∨ k = 116 ∨ k = 117 := by omega
  rcases this with rfl | rfl | rfl | rfl | rfl | rfl <;> decide
theorem zwf_op {k h : Nat} {rest : List Int32} (hk : yop k = true) (h1 : 2 ≤ h) (h2 : h ≤ 30) (hw : zwf rest (h - 1)) : zwf (-(nI k) :: rest) h := by
  obtain ⟨a, b, c, _⟩ := yop_s hk
  unfold zwf
  rw [if_pos a, if_pos b, if_neg c]
  exact ⟨h1, h2, hw⟩
theorem zev_c {g : Nat → Int32} {s : Int32} {ss : List Int32} {p : Nat × (Nat → Int32)} : zev g (s :: ss) p = zev g ss (zev1 g s p) := rfl
theorem zev_op {k h : Nat} {g f : Nat → Int32} {rest : List Int32} (hk : yop k = true) : ∃ f', zev g (-(nI k) :: rest) (h, f) = zev g rest (h - 1, f') := by
  obtain ⟨a, b, c, _⟩ := yop_s hk
  rw [zev_c, zev1, if_pos a, if_pos b, if_neg c]
  exact ⟨_, rfl⟩
theorem yvok_1 {a : ytkT} (h : a.k = 2 ∨ yinp a.k = true) (hg : ytkg a) : yvok [ystp a] 1 := by
  by_cases h2 : a.k = 2
  · have hn := hg.1 h2
    have e : ystp a = nI a.n := by unfold ystp; rw [if_pos h2]
    have p : ¬ nI a.n < 0 := nI_pos (by omega)
    rw [e]
    refine ⟨fun s hs q => ?_, fun rest h hk hw => ?_, fun g rest h f => ?_⟩
    · rw [List.mem_singleton.mp hs] at q; exact absurd q p
    · show zwf (nI a.n :: rest) h
      unfold zwf
      rw [if_neg p]
      exact ⟨by omega, hw⟩
    · show ∃ f', zev g (nI a.n :: rest) (h, f) = _
      rw [zev_c, zev1, if_neg p]
      exact ⟨_, rfl⟩
  · have hi := h.resolve_left h2
    have e : ystp a = -(nI a.k) := by unfold ystp; rw [if_neg h2]
    obtain ⟨p, p2, p3⟩ := yinp_s hi
    rw [e]
    refine ⟨fun s hs q w => ?_, fun rest h hk hw => ?_, fun g rest h f => ?_⟩
    · rw [List.mem_singleton.mp hs] at w; exact absurd w p2
    · show zwf (-(nI a.k) :: rest) h
      unfold zwf
      rw [if_pos p, if_neg p2]
      exact ⟨p3, by omega, hw⟩
    · show ∃ f', zev g (-(nI a.k) :: rest) (h, f) = _
      rw [zev_c, zev1, if_pos p, if_neg p2]
      exact ⟨_, rfl⟩
theorem yvok_not {V : List Int32} {k : Nat} (h : yvok V k) (hk : 1 ≤ k) : yvok (V ++ [-(nI 111)]) k := by
  refine ⟨fun s hs q w z => ?_, fun rest x hx hw => ?_, fun g rest x f => ?_⟩
  · rcases List.mem_append.mp hs with a | a
    · exact h.1 s a q w z
    · rw [List.mem_singleton.mp a] at z; exact absurd (by decide) z
  · rw [List.append_assoc]
    refine h.2.1 _ x hx ?_
    show zwf (-(nI 111) :: rest) (x + 1)
    unfold zwf
    rw [if_pos (by decide), if_pos (by decide), if_pos (by decide)]
    exact ⟨by omega, by omega, hw⟩
  · rw [List.append_assoc]
    obtain ⟨f1, e1⟩ := h.2.2 g ([-(nI 111)] ++ rest) x f
    rw [e1]
    show ∃ f', zev g (-(nI 111) :: rest) (x + 1, f1) = _
    rw [zev_c, zev1, if_pos (by decide), if_pos (by decide), if_pos (by decide)]
    exact ⟨_, rfl⟩
theorem yvol_nil : yvol [] 0 := ⟨fun s hs => (by cases hs), fun rest h _ _ hw => hw, fun g rest h f _ => ⟨f, rfl⟩⟩
theorem yvol_cons {V V' : List Int32} {k j o : Nat} (h : yvok V k) (hk : 1 ≤ k) (ho : yop o = true) (h' : yvol V' j) : yvol (V ++ [-(nI o)] ++ V') (k + j) := by
  refine ⟨fun s hs q w z => ?_, fun rest x hx hj hw => ?_, fun g rest x f hx => ?_⟩
  · rcases List.mem_append.mp hs with a | a
    · rcases List.mem_append.mp a with a | a
      · exact h.1 s a q w z
      · rw [List.mem_singleton.mp a]; exact (yop_s ho).2.2.2
    · exact h'.1 s a q w z
  · rw [List.append_assoc, List.append_assoc]
    refine h.2.1 _ x (by omega) ?_
    exact zwf_op ho (by omega) (by omega) (h'.2.1 rest x hx (by omega) hw)
  · rw [List.append_assoc, List.append_assoc]
    obtain ⟨f1, e1⟩ := h.2.2 g ([-(nI o)] ++ (V' ++ rest)) x f
    obtain ⟨f2, e2⟩ := zev_op (k := o) (h := x + 1) (g := g) (f := f1) (rest := V' ++ rest) ho
    obtain ⟨f3, e3⟩ := h'.2.2 g rest x f2 hx
    exact ⟨f3, e1.trans (e2.trans e3)⟩
theorem yvok_ap {V V' : List Int32} {k j : Nat} (h : yvok V k) (hk : 1 ≤ k) (h' : yvol V' j) : yvok (V ++ V') (k + j) := by
  refine ⟨fun s hs q w z => ?_, fun rest x hj hw => ?_, fun g rest x f => ?_⟩
  · rcases List.mem_append.mp hs with a | a
    · exact h.1 s a q w z
    · exact h'.1 s a q w z
  · rw [List.append_assoc]
    exact h.2.1 _ x (by omega) (h'.2.1 rest (x + 1) (by omega) (by omega) hw)
  · rw [List.append_assoc]
    obtain ⟨f1, e1⟩ := h.2.2 g (V' ++ rest) x f
    obtain ⟨f2, e2⟩ := h'.2.2 g rest (x + 1) f1 (by omega)
    exact ⟨f2, e1.trans e2⟩
section BND
variable {B : Nat → Nat} {n : Nat}
def yBB (n : Nat) (c : Nat) (F : yRF) : Prop := ∀ p : yps, ytkO n p.tk → ytkO n (F p).2.tk ∧ (F p).1 ≤ 2 ∧ ((F p).1 = 0 → ∃ V k, (F p).2.W = p.W ++ V ∧ (F p).2.u = p.u + k ∧ 1 ≤ k ∧ p.u + k ≤ 30 ∧ V.length + c ≤ 9 * k ∧ yvok V k)
theorem yrf_2 (a : ytkT) : yrf a ≤ 2 ∧ yrf a ≠ 0 := by unfold yrf; split <;> omega
theorem yUn_B {r : Nat} {E : yRF} (hB : ∀ j, j < n → B j < 256) (hE : 0 < r → yBB n 1 E) : yBB n 8 (yUn B n E r) := by
  intro p hp
  have hn := ytkO_nt hB hp
  unfold yUn
  by_cases c1 : (p.tk.k = 2 ∨ yinp p.tk.k = true) ∧ p.u < 30
  · simp only [if_pos c1]
    exact ⟨hn, by omega, fun _ => ⟨[ystp p.tk], 1, rfl, rfl, by omega, by omega, by show 1 + 8 ≤ 9 * 1; omega, yvok_1 c1.1 hp.2⟩⟩
  · by_cases c2 : p.tk.k = 40 ∧ 0 < r ∧ p.u < 30
    · simp only [if_neg c1, if_pos c2]
      have h := hE c2.2.1 (yps.mk (ynt B n p.tk) p.W (p.u + 1)) hn
      generalize E (yps.mk (ynt B n p.tk) p.W (p.u + 1)) = e at h ⊢
      by_cases h0 : e.1 = 0
      · simp only [if_pos h0]
        by_cases c3 : e.2.tk.k = 41
        · simp only [if_pos c3]
          refine ⟨ytkO_nt hB h.1, by omega, fun _ => ?_⟩
          obtain ⟨V, k, a1, a2, a3, a4, a5, a6⟩ := h.2.2 h0
          have a2' : e.2.u = p.u + 1 + k := a2
          have a4' : p.u + 1 + k ≤ 30 := a4
          exact ⟨V, 1 + k, a1, by show e.2.u = _; omega, by omega, by omega, by omega, a6.1, fun rest x hx hw => a6.2.1 rest x (by omega) hw, a6.2.2⟩
        · simp only [if_neg c3]
          exact ⟨h.1, (yrf_2 _).1, fun z => absurd z (yrf_2 _).2⟩
      · simp only [if_neg h0]
        exact ⟨h.1, h.2.1, fun z => absurd z h0⟩
    · simp only [if_neg c1, if_neg c2]
      exact ⟨hp, (yrf_2 _).1, fun z => absurd z (yrf_2 _).2⟩
theorem yLo_B {c : Nat} {is : Nat → Bool} {F : yRF} (hB : ∀ j, j < n → B j < 256) (hF : yBB n c F) (hc : 1 ≤ c) (his : ∀ k, is k = true → yop k = true) : ∀ (k : Nat) (p : yps), ytkO n p.tk → p.u ≤ 30 → ytkO n (yLo B n is F k p).2.tk ∧ (yLo B n is F k p).1 ≤ 2 ∧ ((yLo B n is F k p).1 = 0 → ∃ V j, (yLo B n is F k p).2.W = p.W ++ V ∧ (yLo B n is F k p).2.u = p.u + j ∧ p.u + j ≤ 30 ∧ V.length ≤ 9 * j ∧ yvol V j) := by
  intro k
  induction k with
  | zero => exact fun p hp hu => ⟨hp, Nat.zero_le _, fun _ => ⟨[], 0, (List.append_nil _).symm, rfl, by omega, by show 0 ≤ 9 * 0; omega, yvol_nil⟩⟩
  | succ k ih =>
    intro p hp hu
    unfold yLo
    by_cases hi : is p.tk.k = true
    · simp only [if_pos hi]
      have h := hF (yps.mk (ynt B n p.tk) p.W p.u) (ytkO_nt hB hp)
      generalize F (yps.mk (ynt B n p.tk) p.W p.u) = e at h ⊢
      by_cases h0 : e.1 = 0
      · simp only [if_pos h0]
        obtain ⟨V, k1, a1, a2, a3, a4, a5, a6⟩ := h.2.2 h0
        have a1' : e.2.W = p.W ++ V := a1
        have a2' : e.2.u = p.u + k1 := a2
        have a4' : p.u + k1 ≤ 30 := a4
        have z := ih (yps.mk e.2.tk (e.2.W ++ [-(nI p.tk.k)]) e.2.u) h.1 (by show e.2.u ≤ 30; omega)
        refine ⟨z.1, z.2.1, fun hz => ?_⟩
        obtain ⟨V2, j, b1, b2, b3, b4, b5⟩ := z.2.2 hz
        have b2' : _ = e.2.u + j := b2
        have b3' : e.2.u + j ≤ 30 := b3
        refine ⟨V ++ [-(nI p.tk.k)] ++ V2, k1 + j, ?_, by rw [b2']; omega, by omega, ?_, yvol_cons a6 a3 (his _ hi) b5⟩
        · rw [b1]
          show e.2.W ++ [-(nI p.tk.k)] ++ V2 = _
          rw [a1']
          simp only [List.append_assoc]
        · rw [List.length_append, List.length_append]
          show V.length + 1 + V2.length ≤ _
          omega
      · simp only [if_neg h0]
        exact ⟨h.1, h.2.1, fun z => absurd z h0⟩
    · simp only [if_neg hi]
      exact ⟨hp, Nat.zero_le _, fun _ => ⟨[], 0, (List.append_nil _).symm, rfl, by omega, by show 0 ≤ 9 * 0; omega, yvol_nil⟩⟩
theorem ypLv_B {c : Nat} {is : Nat → Bool} {F : yRF} (hB : ∀ j, j < n → B j < 256) (hF : yBB n c F) (hc : 1 ≤ c) (his : ∀ k, is k = true → yop k = true) : yBB n c (ypLv B n is F) := by
  intro p hp
  have h := hF p hp
  unfold ypLv
  by_cases h0 : (F p).1 = 0
  · simp only [if_pos h0]
    obtain ⟨V, k1, a1, a2, a3, a4, a5, a6⟩ := h.2.2 h0
    have z := yLo_B hB hF hc his 1600 (F p).2 h.1 (by omega)
    refine ⟨z.1, z.2.1, fun hz => ?_⟩
    obtain ⟨V2, j, b1, b2, b3, b4, b5⟩ := z.2.2 hz
    exact ⟨V ++ V2, k1 + j, by rw [b1, a1, List.append_assoc], by omega, by omega, by omega, by rw [List.length_append]; omega, yvok_ap a6 a3 b5⟩
  · simp only [if_neg h0]
    exact h
theorem yRl_B {c : Nat} {S : yRF} (hB : ∀ j, j < n → B j < 256) (hS : yBB n c S) (hc : 1 ≤ c) : yBB n c (yRl B n S) := by
  intro p hp
  have h := hS p hp
  unfold yRl
  by_cases h0 : (S p).1 = 0
  · simp only [if_pos h0]
    by_cases hi : yrel (S p).2.tk.k = true
    · simp only [if_pos hi]
      obtain ⟨V, k1, a1, a2, a3, a4, a5, a6⟩ := h.2.2 h0
      have h' := hS (yps.mk (ynt B n (S p).2.tk) (S p).2.W (S p).2.u) (ytkO_nt hB h.1)
      generalize S (yps.mk (ynt B n (S p).2.tk) (S p).2.W (S p).2.u) = e at h' ⊢
      by_cases h1 : e.1 = 0
      · simp only [if_pos h1]
        obtain ⟨V2, k2, b1, b2, b3, b4, b5, b6⟩ := h'.2.2 h1
        have b1' : e.2.W = (S p).2.W ++ V2 := b1
        have b2' : e.2.u = (S p).2.u + k2 := b2
        have b4' : (S p).2.u + k2 ≤ 30 := b4
        refine ⟨h'.1, Nat.zero_le _, fun _ => ⟨V ++ (V2 ++ [-(nI (S p).2.tk.k)] ++ []), k1 + (k2 + 0), ?_, by show e.2.u = _; omega, by omega, by omega, ?_, yvok_ap a6 a3 (yvol_cons b6 b3 (yrel_op hi).1 yvol_nil)⟩⟩
        · show e.2.W ++ [-(nI (S p).2.tk.k)] = _
          rw [b1', a1, List.append_nil]
          simp only [List.append_assoc]
        · rw [List.append_nil, List.length_append, List.length_append]
          show V.length + (V2.length + 1) + c ≤ _
          omega
      · simp only [if_neg h1]
        exact ⟨h'.1, h'.2.1, fun z => absurd z h1⟩
    · simp only [if_neg hi]
      exact h
  · simp only [if_neg h0]
    exact h
theorem yBB_le {c c' : Nat} {F : yRF} (h : yBB n c F) (hc : c' ≤ c) : yBB n c' F := fun p hp => ⟨(h p hp).1, (h p hp).2.1, fun z => by
  obtain ⟨V, k, a1, a2, a3, a4, a5, a6⟩ := (h p hp).2.2 z
  exact ⟨V, k, a1, a2, a3, a4, by omega, a6⟩⟩
theorem yTe_B {r : Nat} {E : yRF} (hB : ∀ j, j < n → B j < 256) (hE : 0 < r → yBB n 1 E) : yBB n 8 (yTe B n E r) := ypLv_B hB (yUn_B hB hE) (by decide) (fun k h => (ymul_op h).1)
theorem ySu_B {r : Nat} {E : yRF} (hB : ∀ j, j < n → B j < 256) (hE : 0 < r → yBB n 1 E) : yBB n 8 (ySu B n E r) := ypLv_B hB (yTe_B hB hE) (by decide) (fun k h => (yadd_op h).1)
theorem yOn_B {r : Nat} {O E : yRF} (hB : ∀ j, j < n → B j < 256) (hr : r ≤ 7) (hO : 0 < r → yBB n (9 - r) O) (hE : 0 < r → yBB n 1 E) : yBB n (8 - r) (yOn B n O E r) := by
  intro p hp
  unfold yOn
  by_cases c : p.tk.k = 111
  · simp only [if_pos c]
    by_cases c0 : r = 0
    · simp only [if_pos c0]
      exact ⟨hp, Nat.le_refl _, fun z => absurd z (by decide)⟩
    · simp only [if_neg c0]
      have h := hO (by omega) (yps.mk (ynt B n p.tk) p.W p.u) (ytkO_nt hB hp)
      generalize O (yps.mk (ynt B n p.tk) p.W p.u) = e at h ⊢
      by_cases h0 : e.1 = 0
      · simp only [if_pos h0]
        obtain ⟨V, k, a1, a2, a3, a4, a5, a6⟩ := h.2.2 h0
        have a1' : e.2.W = p.W ++ V := a1
        refine ⟨h.1, Nat.zero_le _, fun _ => ⟨V ++ [-(nI 111)], k, ?_, a2, a3, a4, ?_, yvok_not a6 a3⟩⟩
        · show e.2.W ++ [-(nI 111)] = _
          rw [a1', List.append_assoc]
        · rw [List.length_append]
          show V.length + 1 + (8 - r) ≤ 9 * k
          omega
      · simp only [if_neg h0]
        exact ⟨h.1, h.2.1, fun z => absurd z h0⟩
  · simp only [if_neg c]
    exact yBB_le (yRl_B hB (ySu_B hB hE) (by decide)) (by omega) p hp
theorem yBo_B {c : Nat} {o : yRF} (hB : ∀ j, j < n → B j < 256) (hc : 1 ≤ c) (h : yBB n c o) : yBB n c (yBo B n o) := ypLv_B hB h hc (fun k h => (yan_op h).1)
theorem yEi_B {c : Nat} {o : yRF} (hB : ∀ j, j < n → B j < 256) (hc : 1 ≤ c) (h : yBB n c o) : yBB n c (yEi B n o) := ypLv_B hB (yBo_B hB hc h) hc (fun k h => (yor_op h).1)
theorem yOr_B (hB : ∀ j, j < n → B j < 256) : ∀ r, r ≤ 7 → yBB n (8 - r) (yOr B n r)
  | 0, _ => yOn_B hB (by decide) (fun h => absurd h (by decide)) (fun h => absurd h (by decide))
  | r + 1, hr => yOn_B hB hr (fun _ => yBB_le (yOr_B hB r (by omega)) (by omega)) (fun _ => yEi_B hB (by decide) (yBB_le (yOr_B hB r (by omega)) (by omega)))
theorem yEr_B (hB : ∀ j, j < n → B j < 256) {r : Nat} (hr : r ≤ 7) : 0 < r → yBB n 1 (yEr B n r) := fun h => by
  obtain ⟨r', e⟩ : ∃ r', r = r' + 1 := ⟨r - 1, by omega⟩
  subst e
  exact yEi_B hB (by decide) (yBB_le (yOr_B hB r' (by omega)) (by omega))
/-- the whole formula's steps -/
theorem yEi_ok (hB : ∀ j, j < n → B j < 256) (a : ytkT) (ha : ytkO n a) : ytkO n (yEi B n (yOr B n 7) (yps.mk a [] 0)).2.tk ∧ (yEi B n (yOr B n 7) (yps.mk a [] 0)).1 ≤ 2 ∧ ((yEi B n (yOr B n 7) (yps.mk a [] 0)).1 = 0 → zsok (yEi B n (yOr B n 7) (yps.mk a [] 0)).2.W ∧ (yEi B n (yOr B n 7) (yps.mk a [] 0)).2.W ≠ [] ∧ (yEi B n (yOr B n 7) (yps.mk a [] 0)).2.u ≤ 30 ∧ ∀ s, s ∈ (yEi B n (yOr B n 7) (yps.mk a [] 0)).2.W → s < 0 → -s < 112 → ¬ -s = 111 → ybin (-s)) := by
  have h := yEi_B hB (Nat.le_refl 1) (yOr_B hB 7 (Nat.le_refl _)) (yps.mk a [] 0) ha
  generalize yEi B n (yOr B n 7) (yps.mk a [] 0) = e at h ⊢
  refine ⟨h.1, h.2.1, fun h0 => ?_⟩
  obtain ⟨V, k, a1, a2, a3, a4, a5, a6⟩ := h.2.2 h0
  have a1' : e.2.W = V := a1
  have a2' : e.2.u = 0 + k := a2
  have a4' : 0 + k ≤ 30 := a4
  rw [a1']
  have z := a6.2.2 (fun _ => 0) [] 0 (fun _ => 0)
  refine ⟨⟨by omega, Or.inr ⟨?_, fun g f => ?_⟩⟩, fun q => ?_, by omega, a6.1⟩
  · have := a6.2.1 [] 0 a4' trivial
    rw [List.append_nil] at this
    exact this
  · obtain ⟨f', e'⟩ := a6.2.2 g [] 0 f
    rw [List.append_nil] at e'
    rw [e']
    rfl
  · rw [q] at z
    obtain ⟨f', e'⟩ := z
    have : (0 : Nat) = 0 + 1 := congrArg Prod.fst e'
    omega
end BND
