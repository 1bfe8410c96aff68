/-! formulas, as data: the descent of the class, and the stack of signs of the model -/
def yps : Type := ytkT × List Int32 × Nat
def yps.mk (a : ytkT) (W : List Int32) (u : Nat) : yps := (a, W, u)
def yps.tk (p : yps) : ytkT := p.1
def yps.W (p : yps) : List Int32 := p.2.1
def yps.u (p : yps) : Nat := p.2.2
def ynt (B : Nat → Nat) (n : Nat) (a : ytkT) : ytkT := ytok B n a.e
def yrf (a : ytkT) : Nat := if a.k = 0 then 1 else 2
def yinp (k : Nat) : Bool := decide (112 ≤ k ∧ k ≤ 117)
def ymul (k : Nat) : Bool := decide (k = 42 ∨ k = 47 ∨ k = 37)
def yadd (k : Nat) : Bool := decide (k = 43 ∨ k = 45)
def yrel (k : Nat) : Bool := decide (k = 60 ∨ k = 62 ∨ k = 61)
def yan (k : Nat) : Bool := decide (k = 110)
def yor (k : Nat) : Bool := decide (k = 109)
def yop (k : Nat) : Bool := decide (k = 109 ∨ k = 110 ∨ k = 60 ∨ k = 62 ∨ k = 61 ∨ k = 43 ∨ k = 45 ∨ k = 42 ∨ k = 47 ∨ k = 37)
def ystp (a : ytkT) : Int32 := if a.k = 2 then nI a.n else -(nI a.k)
def yRF : Type := yps → Nat × yps
/-- a unit -/
def yUn (B : Nat → Nat) (n : Nat) (E : yRF) (r : Nat) : yRF := fun p =>
  if (p.tk.k = 2 ∨ yinp p.tk.k = true) ∧ p.u < 30 then (0, yps.mk (ynt B n p.tk) (p.W ++ [ystp p.tk]) (p.u + 1))
  else if p.tk.k = 40 ∧ 0 < r ∧ p.u < 30 then
    (if (E (yps.mk (ynt B n p.tk) p.W (p.u + 1))).1 = 0 then
      (if (E (yps.mk (ynt B n p.tk) p.W (p.u + 1))).2.tk.k = 41 then (0, yps.mk (ynt B n (E (yps.mk (ynt B n p.tk) p.W (p.u + 1))).2.tk) (E (yps.mk (ynt B n p.tk) p.W (p.u + 1))).2.W (E (yps.mk (ynt B n p.tk) p.W (p.u + 1))).2.u)
       else (yrf (E (yps.mk (ynt B n p.tk) p.W (p.u + 1))).2.tk, (E (yps.mk (ynt B n p.tk) p.W (p.u + 1))).2))
     else E (yps.mk (ynt B n p.tk) p.W (p.u + 1)))
  else (yrf p.tk, p)
/-- a row of such ones with signs between -/
def yLo (B : Nat → Nat) (n : Nat) (is : Nat → Bool) (F : yRF) : Nat → yRF
  | 0 => fun p => (0, p)
  | k + 1 => fun p => if is p.tk.k = true then
      (if (F (yps.mk (ynt B n p.tk) p.W p.u)).1 = 0 then yLo B n is F k (yps.mk (F (yps.mk (ynt B n p.tk) p.W p.u)).2.tk ((F (yps.mk (ynt B n p.tk) p.W p.u)).2.W ++ [-(nI p.tk.k)]) (F (yps.mk (ynt B n p.tk) p.W p.u)).2.u)
       else F (yps.mk (ynt B n p.tk) p.W p.u))
    else (0, p)
def ypLv (B : Nat → Nat) (n : Nat) (is : Nat → Bool) (F : yRF) : yRF := fun p => if (F p).1 = 0 then yLo B n is F 1600 (F p).2 else F p
def yTe (B : Nat → Nat) (n : Nat) (E : yRF) (r : Nat) : yRF := ypLv B n ymul (yUn B n E r)
def ySu (B : Nat → Nat) (n : Nat) (E : yRF) (r : Nat) : yRF := ypLv B n yadd (yTe B n E r)
def yRl (B : Nat → Nat) (n : Nat) (S : yRF) : yRF := fun p =>
  if (S p).1 = 0 then
    (if yrel (S p).2.tk.k = true then
      (if (S (yps.mk (ynt B n (S p).2.tk) (S p).2.W (S p).2.u)).1 = 0 then (0, yps.mk (S (yps.mk (ynt B n (S p).2.tk) (S p).2.W (S p).2.u)).2.tk ((S (yps.mk (ynt B n (S p).2.tk) (S p).2.W (S p).2.u)).2.W ++ [-(nI (S p).2.tk.k)]) (S (yps.mk (ynt B n (S p).2.tk) (S p).2.W (S p).2.u)).2.u)
       else S (yps.mk (ynt B n (S p).2.tk) (S p).2.W (S p).2.u))
     else S p)
  else S p
def yOn (B : Nat → Nat) (n : Nat) (O E : yRF) (r : Nat) : yRF := fun p =>
  if p.tk.k = 111 then
    (if r = 0 then (2, p)
     else if (O (yps.mk (ynt B n p.tk) p.W p.u)).1 = 0 then (0, yps.mk (O (yps.mk (ynt B n p.tk) p.W p.u)).2.tk ((O (yps.mk (ynt B n p.tk) p.W p.u)).2.W ++ [-(nI 111)]) (O (yps.mk (ynt B n p.tk) p.W p.u)).2.u)
     else O (yps.mk (ynt B n p.tk) p.W p.u))
  else yRl B n (ySu B n E r) p
def yBo (B : Nat → Nat) (n : Nat) (o : yRF) : yRF := ypLv B n yan o
def yEi (B : Nat → Nat) (n : Nat) (o : yRF) : yRF := ypLv B n yor (yBo B n o)
def yDu : yRF := fun p => (2, p)
/-- so many brackets and nots may still be opened -/
def yOr (B : Nat → Nat) (n : Nat) : Nat → yRF
  | 0 => yOn B n yDu yDu 0
  | r + 1 => yOn B n (yOr B n r) (yEi B n (yOr B n r)) (r + 1)
def yEr (B : Nat → Nat) (n : Nat) : Nat → yRF
  | 0 => yDu
  | r + 1 => yEi B n (yOr B n r)
theorem yOr_e (B : Nat → Nat) (n r : Nat) : yOr B n r = yOn B n (match r with | 0 => yDu | r + 1 => yOr B n r) (yEr B n r) r := by cases r <;> rfl
/-! the stack of signs -/
def ytg (k : Nat) : Nat := if k = 109 then 1 else if k = 110 then 2 else if k = 111 then 3 else if yrel k = true then 4 else if yadd k = true then 5 else 6
def yclo (m : Nat) : List Nat → List Int32 → List Nat × List Int32
  | [], W => ([], W)
  | k :: s, W => if k ≠ 40 ∧ m ≤ ytg k then yclo m s (W ++ [-(nI k)]) else (k :: s, W)
def yhr : List Nat → Bool
  | [] => false
  | k :: s => if k = 40 then false else if 4 < ytg k then yhr s else decide (ytg k = 4)
def ypcn (m : Nat) : List Nat → Bool
  | [] => true
  | k :: _ => decide (k = 40 ∨ ytg k < m)
def ydp : List Nat → Nat
  | [] => 0
  | k :: s => (if k = 40 ∨ k = 111 then 1 else 0) + ydp s
def yphb (s : List Nat) : Bool := s.any (fun k => decide (k = 40))
/-- true: ahead of a unit; false: behind it -/
def ypsr (B : Nat → Nat) (n : Nat) : Nat → Bool → List Nat → yps → Nat × List Nat × yps
  | 0, _, s, p => (9, s, p)
  | f + 1, true, s, p =>
    if p.tk.k = 111 ∧ ypcn 4 s = true then (if ydp s < 7 then ypsr B n f true (111 :: s) (yps.mk (ynt B n p.tk) p.W p.u) else (2, s, p))
    else if p.tk.k = 40 then (if p.u < 30 ∧ ydp s < 7 then ypsr B n f true (40 :: s) (yps.mk (ynt B n p.tk) p.W (p.u + 1)) else (2, s, p))
    else if (p.tk.k = 2 ∨ yinp p.tk.k = true) ∧ p.u < 30 then ypsr B n f false s (yps.mk (ynt B n p.tk) (p.W ++ [ystp p.tk]) (p.u + 1))
    else (yrf p.tk, s, p)
  | f + 1, false, s, p =>
    if p.tk.k = 41 ∧ yphb s = true then ypsr B n f false (yclo 0 s p.W).1.tail (yps.mk (ynt B n p.tk) (yclo 0 s p.W).2 p.u)
    else if yop p.tk.k = true ∧ ¬ (ytg p.tk.k = 4 ∧ yhr s = true) then ypsr B n f true (p.tk.k :: (yclo (ytg p.tk.k) s p.W).1) (yps.mk (ynt B n p.tk) (yclo (ytg p.tk.k) s p.W).2 p.u)
    else if yphb s = true then (yrf p.tk, s, p)
    else (0, [], yps.mk p.tk (yclo 0 s p.W).2 p.u)
/-! they agree -/
def ypfl (s : List Nat) : List Int32 := s.map (fun k => -(nI k))
def ytko (n : Nat) (a : ytkT) : Prop := a.s ≤ n ∧ a.e ≤ n ∧ (a.k ≠ 1 → a.s < a.e)
theorem ytko_tok {B : Nat → Nat} {n p : Nat} (hp : p ≤ n) : ytko n (ytok B n p) ∧ p ≤ (ytok B n p).s := by
  have h1 : p ≤ yE yspc B n p := yE_ge
  have h2 : yE yspc B n p ≤ n := yE_le hp
  unfold ytok
  generalize yE yspc B n p = s at h1 h2 ⊢
  unfold ytk1
  have hl : yE ylet B n s ≤ n := yE_le h2
  have hd : yE ydig B n s ≤ n := yE_le h2
  split
  · rename_i hs
    split
    · rename_i hb
      have := yE_gt hs hb
      split
      · exact ⟨⟨h2, hl, fun _ => this⟩, h1⟩
      · exact ⟨⟨h2, hl, fun _ => this⟩, h1⟩
    · split
      · rename_i hb
        have := yE_gt hs hb
        split
        · exact ⟨⟨h2, hd, fun _ => this⟩, h1⟩
        · exact ⟨⟨h2, hd, fun _ => this⟩, h1⟩
      · split
        · exact ⟨⟨h2, hs, fun _ => Nat.lt_succ_self s⟩, h1⟩
        · exact ⟨⟨h2, hs, fun _ => Nat.lt_succ_self s⟩, h1⟩
  · exact ⟨⟨h2, h2, fun z => absurd rfl z⟩, h1⟩
theorem ytko_nx {B : Nat → Nat} {n : Nat} {a : ytkT} (h : ytko n a) (hk : a.k ≠ 1) : ytko n (ynt B n a) ∧ a.s < (ynt B n a).s := by
  have q := ytko_tok (B := B) h.2.1
  exact ⟨q.1, Nat.lt_of_lt_of_le (h.2.2 hk) q.2⟩
/-- no sign that binds as l at least comes next, but for a relation behind a relation -/
def yst7 (l : Nat) (s : List Nat) (k : Nat) : Prop := yop k = true → l ≤ ytg k → ytg k = 4 ∧ yhr s = true
theorem yhr_ap : ∀ (s s' : List Nat), yhr s = true → yhr (s ++ s') = true
  | [], _, h => by cases h
  | k :: s, s', h => by
    unfold yhr at h
    show yhr (k :: (s ++ s')) = true
    unfold yhr
    split
    · rename_i e; rw [if_pos e] at h; exact h
    · rename_i e
      rw [if_neg e] at h
      split
      · rename_i e2; rw [if_pos e2] at h; exact yhr_ap s s' h
      · rename_i e2; rw [if_neg e2] at h; exact h
theorem yst7_ap {l : Nat} {s s' : List Nat} {k : Nat} (h : yst7 l s k) : yst7 l (s ++ s') k := fun a b => ⟨(h a b).1, yhr_ap _ _ (h a b).2⟩
def yppd (l : Nat) (s : List Nat) : Prop := ∀ k, k ∈ s → k ≠ 40 ∧ l ≤ ytg k
theorem yfl_ap (s s' : List Nat) : ypfl (s ++ s') = ypfl s ++ ypfl s' := List.map_append
theorem yclo_ap {m l : Nat} : ∀ (pd s : List Nat) (W : List Int32), yppd l pd → m ≤ l → ypcn m s = true → yclo m (pd ++ s) W = (s, W ++ ypfl pd)
  | [], [], W, _, _, _ => by rw [List.nil_append]; show _ = (([] : List Nat), W ++ []); rw [List.append_nil]; rfl
  | [], k :: s, W, _, _, h => by
    have : k = 40 ∨ ytg k < m := of_decide_eq_true h
    rw [List.nil_append]
    unfold yclo
    rw [if_neg (by omega)]
    show _ = (k :: s, W ++ [])
    rw [List.append_nil]
  | k :: pd, s, W, h1, h2, h3 => by
    have a := h1 k List.mem_cons_self
    show yclo m (k :: (pd ++ s)) W = _
    unfold yclo
    rw [if_pos ⟨a.1, by omega⟩, yclo_ap pd s _ (fun x hx => h1 x (List.mem_cons_of_mem _ hx)) h2 h3]
    show (s, (W ++ [-(nI k)]) ++ ypfl pd) = (s, W ++ (-(nI k) :: ypfl pd))
    rw [List.append_assoc]
    rfl
theorem ypcn_le {m m' : Nat} (h : m ≤ m') : ∀ {s : List Nat}, ypcn m s = true → ypcn m' s = true
  | [], _ => rfl
  | k :: s, q => by
    have : k = 40 ∨ ytg k < m := of_decide_eq_true q
    exact decide_eq_true (by omega)
theorem yhr_no {l : Nat} (hl : 4 < l) : ∀ (pd s : List Nat), yppd l pd → ypcn 4 s = true → yhr (pd ++ s) = false
  | [], [], _, _ => rfl
  | [], k :: s, _, h => by
    have : k = 40 ∨ ytg k < 4 := of_decide_eq_true h
    rw [List.nil_append]
    unfold yhr
    split
    · rfl
    · rw [if_neg (by omega)]; exact decide_eq_false (by omega)
  | k :: pd, s, h1, h3 => by
    have a := h1 k List.mem_cons_self
    show yhr (k :: (pd ++ s)) = false
    unfold yhr
    rw [if_neg a.1, if_pos (by omega)]
    exact yhr_no hl pd s (fun x hx => h1 x (List.mem_cons_of_mem _ hx)) h3
theorem yhr_ye {l : Nat} (hl : 4 < l) {k : Nat} (hk : ytg k = 4) (h40 : k ≠ 40) : ∀ (pd s : List Nat), yppd l pd → yhr (pd ++ (k :: s)) = true
  | [], s, _ => by
    rw [List.nil_append]
    unfold yhr
    rw [if_neg h40, if_neg (by omega)]
    exact decide_eq_true hk
  | x :: pd, s, h1 => by
    have a := h1 x List.mem_cons_self
    show yhr (x :: (pd ++ (k :: s))) = true
    unfold yhr
    rw [if_neg a.1, if_pos (by omega)]
    exact yhr_ye hl hk h40 pd s (fun x hx => h1 x (List.mem_cons_of_mem _ hx))
theorem yhb_40 (pd s : List Nat) : yphb (pd ++ (40 :: s)) = true := by
  unfold yphb
  rw [List.any_append]
  show (_ || (true || _)) = true
  rw [Bool.true_or, Bool.or_true]
theorem yhb_pd {l : Nat} {pd : List Nat} (h : yppd l pd) : yphb pd = false := by
  unfold yphb
  rw [List.any_eq_false]
  intro x hx
  have := (h x hx).1
  simpa using this
theorem yop_tg {k : Nat} (h : yop k = true) : k ≠ 41 ∧ k ≠ 40 ∧ k ≠ 111 ∧ k ≠ 1 ∧ ytg k ≠ 3 ∧ (ytg k = 6 ↔ ymul k = true) ∧ (ytg k = 5 ↔ yadd k = true) ∧ (ytg k = 4 ↔ yrel k = true) ∧ (ytg k = 2 ↔ yan k = true) ∧ (ytg k = 1 ↔ yor k = true) ∧ ytg k ≤ 6 := by
  have : k = 109 ∨ k = 110 ∨ k = 60 ∨ k = 62 ∨ k = 61 ∨ k = 43 ∨ k = 45 ∨ k = 42 ∨ k = 47 ∨ k = 37 := of_decide_eq_true h
  rcases this with rfl | rfl | rfl | rfl | rfl | rfl | rfl | rfl | rfl | rfl <;> decide
theorem ymul_op {k : Nat} (h : ymul k = true) : yop k = true ∧ ytg k = 6 := by
  have : k = 42 ∨ k = 47 ∨ k = 37 := of_decide_eq_true h
  rcases this with rfl | rfl | rfl <;> decide
theorem yadd_op {k : Nat} (h : yadd k = true) : yop k = true ∧ ytg k = 5 := by
  have : k = 43 ∨ k = 45 := of_decide_eq_true h
  rcases this with rfl | rfl <;> decide
theorem yrel_op {k : Nat} (h : yrel k = true) : yop k = true ∧ ytg k = 4 := by
  have : k = 60 ∨ k = 62 ∨ k = 61 := of_decide_eq_true h
  rcases this with rfl | rfl | rfl <;> decide
theorem yan_op {k : Nat} (h : yan k = true) : yop k = true ∧ ytg k = 2 := by
  have : k = 110 := of_decide_eq_true h
  subst this; decide
theorem yor_op {k : Nat} (h : yor k = true) : yop k = true ∧ ytg k = 1 := by
  have : k = 109 := of_decide_eq_true h
  subst this; decide
theorem yppd_nil {l : Nat} : yppd l [] := fun x hx => by cases hx
theorem yst7_7 {s : List Nat} {k : Nat} : yst7 7 s k := fun a b => absurd b (by have := (yop_tg a).2.2.2.2.2.2.2.2.2.2; omega)
section DESC
variable {B : Nat → Nat} {n : Nat}
/-- the stack's way follows that part of the descent -/
def yTT (B : Nat → Nat) (n : Nat) (m l r : Nat) (F : yRF) : Prop := ∀ (s : List Nat) (p : yps), ypcn m s = true → ydp s + r = 7 → ytko n p.tk → (m ≤ 4 ∨ ¬ (p.tk.k = 111 ∧ ypcn 4 s = true)) →
  ((F p).1 = 0 → ∃ (j : Nat) (pd : List Nat) (W1 : List Int32), (∀ f, ypsr B n (j + f) true s p = ypsr B n f false (pd ++ s) (yps.mk (F p).2.tk W1 (F p).2.u)) ∧ W1 ++ ypfl pd = (F p).2.W ∧ yppd l pd ∧ yst7 l pd (F p).2.tk.k ∧ p.tk.s < (F p).2.tk.s ∧ ytko n (F p).2.tk) ∧
  ((F p).1 ≠ 0 → ∃ (j : Nat) (s' : List Nat) (p' : yps), (∀ f, ypsr B n (j + f) true s p = ((F p).1, s', p')) ∧ p'.tk = (F p).2.tk)
/-- from a place behind a unit on -/
theorem yLo_T {m2 l r : Nat} {is : Nat → Bool} {F : yRF} (hF : yTT B n m2 (l + 1) r F) (hl : l < m2) (hl4 : l ≠ 4) (his : ∀ k, is k = true → yop k = true ∧ ytg k = l) (hop : ∀ k, yop k = true → ytg k = l → is k = true) (hm : m2 ≤ 4 ∨ 4 ≤ l) (s : List Nat) (hs : ypcn l s = true) (hr : ydp s + r = 7) : ∀ (k : Nat) (p : yps) (pd : List Nat) (W1 : List Int32), n < p.tk.s + k → ytko n p.tk → W1 ++ ypfl pd = p.W → yppd l pd → yst7 (l + 1) pd p.tk.k →
    ((yLo B n is F k p).1 = 0 → ∃ (j : Nat) (pd' : List Nat) (W2 : List Int32), (∀ f, ypsr B n (j + f) false (pd ++ s) (yps.mk p.tk W1 p.u) = ypsr B n f false (pd' ++ s) (yps.mk (yLo B n is F k p).2.tk W2 (yLo B n is F k p).2.u)) ∧ W2 ++ ypfl pd' = (yLo B n is F k p).2.W ∧ yppd l pd' ∧ yst7 l pd' (yLo B n is F k p).2.tk.k ∧ p.tk.s ≤ (yLo B n is F k p).2.tk.s ∧ ytko n (yLo B n is F k p).2.tk) ∧
    ((yLo B n is F k p).1 ≠ 0 → ∃ (j : Nat) (s' : List Nat) (p' : yps), (∀ f, ypsr B n (j + f) false (pd ++ s) (yps.mk p.tk W1 p.u) = ((yLo B n is F k p).1, s', p')) ∧ p'.tk = (yLo B n is F k p).2.tk) := by
  intro k
  induction k with
  | zero => intro p pd W1 hk ht; have := ht.1; omega
  | succ k ih =>
    intro p pd W1 hk ht hW hpd hst
    by_cases hi : is p.tk.k = true
    · obtain ⟨ho, htg⟩ := his _ hi
      have g := yop_tg ho
      have hn := ytko_nx (B := B) ht g.2.2.2.1
      -- one step to the place ahead of a unit
      have one : ∀ f, ypsr B n (f + 1) false (pd ++ s) (yps.mk p.tk W1 p.u) = ypsr B n f true (p.tk.k :: s) (yps.mk (ynt B n p.tk) p.W p.u) := fun f => by
        have c := yclo_ap pd s W1 hpd (Nat.le_refl l) hs
        rw [ypsr, if_neg (fun q => g.1 q.1), if_pos ⟨ho, fun q => hl4 (htg.symm.trans q.1)⟩]
        show ypsr B n f true (p.tk.k :: (yclo (ytg p.tk.k) (pd ++ s) W1).1) (yps.mk (ynt B n p.tk) (yclo (ytg p.tk.k) (pd ++ s) W1).2 p.u) = _
        rw [htg, c, hW]
      have cs : ypcn m2 (p.tk.k :: s) = true := decide_eq_true (Or.inr (by omega))
      have cd : ydp (p.tk.k :: s) + r = 7 := by
        unfold ydp
        rw [if_neg (by omega)]
        omega
      have cm : m2 ≤ 4 ∨ ¬ ((yps.mk (ynt B n p.tk) p.W p.u).tk.k = 111 ∧ ypcn 4 (p.tk.k :: s) = true) := by
        rcases hm with q | q
        · exact Or.inl q
        · refine Or.inr (fun w => ?_)
          have : p.tk.k = 40 ∨ ytg p.tk.k < 4 := of_decide_eq_true w.2
          omega
      obtain ⟨t1, t2⟩ := hF (p.tk.k :: s) (yps.mk (ynt B n p.tk) p.W p.u) cs cd hn.1 cm
      unfold yLo
      simp only [if_pos hi]
      generalize hE : F (yps.mk (ynt B n p.tk) p.W p.u) = e at t1 t2 ⊢
      by_cases h0 : e.1 = 0
      · simp only [if_pos h0]
        obtain ⟨j1, pd1, W2, a1, a2, a3, a4, a5, a6⟩ := t1 h0
        have sa : pd1 ++ (p.tk.k :: s) = (pd1 ++ [p.tk.k]) ++ s := by rw [List.append_assoc]; rfl
        have a5' : (ynt B n p.tk).s < e.2.tk.s := a5
        have z := ih (yps.mk e.2.tk (e.2.W ++ [-(nI p.tk.k)]) e.2.u) (pd1 ++ [p.tk.k]) W2 (by show n < e.2.tk.s + k; omega) a6
          (by show _ = e.2.W ++ [-(nI p.tk.k)]; rw [yfl_ap, ← List.append_assoc, a2]; rfl)
          (fun x hx => by
            rcases List.mem_append.mp hx with q | q
            · have := a3 x q; exact ⟨this.1, by omega⟩
            · rw [List.mem_singleton.mp q]; exact ⟨g.2.1, by omega⟩)
          (yst7_ap a4)
        have go : ∀ j f, ypsr B n ((1 + j1 + j) + f) false (pd ++ s) (yps.mk p.tk W1 p.u) = ypsr B n (j + f) false ((pd1 ++ [p.tk.k]) ++ s) (yps.mk e.2.tk W2 e.2.u) := fun j f => by
          rw [show 1 + j1 + j + f = (j1 + (j + f)) + 1 by omega, one, a1, sa]
        refine ⟨fun hz => ?_, fun hz => ?_⟩
        · obtain ⟨j2, pd2, W3, b1, b2, b3, b4, b5, b6⟩ := z.1 hz
          refine ⟨1 + j1 + j2, pd2, W3, fun f => (go j2 f).trans (b1 f), b2, b3, b4, ?_, b6⟩
          have b5' : e.2.tk.s ≤ _ := b5
          omega
        · obtain ⟨j2, s', p', b1, b2⟩ := z.2 hz
          exact ⟨1 + j1 + j2, s', p', fun f => (go j2 f).trans (b1 f), b2⟩
      · simp only [if_neg h0]
        refine ⟨fun z => absurd z h0, fun _ => ?_⟩
        obtain ⟨j1, s', p', b1, b2⟩ := t2 h0
        refine ⟨j1 + 1, s', p', fun f => ?_, b2⟩
        rw [show j1 + 1 + f = (j1 + f) + 1 by omega, one]
        exact b1 f
    · unfold yLo
      simp only [if_neg hi]
      refine ⟨fun _ => ⟨0, pd, W1, fun f => by rw [Nat.zero_add], hW, hpd, fun a b => ?_, Nat.le_refl _, ht⟩, fun z => absurd rfl z⟩
      rcases Nat.lt_or_ge l (ytg p.tk.k) with q | q
      · exact hst a (by omega)
      · exact absurd (hop _ a (by omega)) hi
theorem yLv_T {m2 l r : Nat} {is : Nat → Bool} {F : yRF} (hn : n ≤ 1599 + 1) (hF : yTT B n m2 (l + 1) r F) (hl : l < m2) (hl4 : l ≠ 4) (his : ∀ k, is k = true → yop k = true ∧ ytg k = l) (hop : ∀ k, yop k = true → ytg k = l → is k = true) (hm : m2 ≤ 4 ∨ 4 ≤ l) : yTT B n l l r (ypLv B n is F) := by
  intro s p hs hr ht hnot
  obtain ⟨t1, t2⟩ := hF s p (ypcn_le (by omega) hs) hr ht (by
    rcases hm with q | q
    · exact Or.inl q
    · exact hnot.elim (fun w => by omega) (fun w => Or.inr w))
  unfold ypLv
  by_cases h0 : (F p).1 = 0
  · simp only [if_pos h0]
    obtain ⟨j1, pd1, W2, a1, a2, a3, a4, a5, a6⟩ := t1 h0
    have z := yLo_T hF hl hl4 his hop hm s hs hr 1600 (F p).2 pd1 W2 (by omega) a6 a2 (fun x hx => ⟨(a3 x hx).1, by have := (a3 x hx).2; omega⟩) a4
    refine ⟨fun hz => ?_, fun hz => ?_⟩
    · obtain ⟨j2, pd2, W3, b1, b2, b3, b4, b5, b6⟩ := z.1 hz
      exact ⟨j1 + j2, pd2, W3, fun f => by rw [Nat.add_assoc, a1, b1], b2, b3, b4, by omega, b6⟩
    · obtain ⟨j2, s', p', b1, b2⟩ := z.2 hz
      exact ⟨j1 + j2, s', p', fun f => by rw [Nat.add_assoc, a1, b1], b2⟩
  · simp only [if_neg h0]
    exact ⟨fun z => absurd z h0, fun _ => t2 h0⟩
theorem yUn_T {r : Nat} {E : yRF} (hE : ∀ r', r = r' + 1 → yTT B n 1 1 r' E) : yTT B n 7 7 r (yUn B n E r) := by
  intro s p hs hr ht hnot
  have hnot' : ¬ (p.tk.k = 111 ∧ ypcn 4 s = true) := hnot.elim (fun w => absurd w (by decide)) id
  by_cases c1 : (p.tk.k = 2 ∨ yinp p.tk.k = true) ∧ p.u < 30
  · have k1 : p.tk.k = 2 ∨ (112 ≤ p.tk.k ∧ p.tk.k ≤ 117) := c1.1.imp id (fun q => of_decide_eq_true q)
    have hn := ytko_nx (B := B) ht (by omega)
    unfold yUn
    simp only [if_pos c1]
    refine ⟨fun _ => ⟨1, [], p.W ++ [ystp p.tk], fun f => ?_, List.append_nil _, yppd_nil, yst7_7, hn.2, hn.1⟩, fun z => absurd rfl z⟩
    rw [Nat.add_comm 1 f, ypsr, if_neg hnot', if_neg (by omega), if_pos c1]
    rfl
  · by_cases c2 : p.tk.k = 40 ∧ 0 < r ∧ p.u < 30
    · have hn := ytko_nx (B := B) ht (by omega)
      obtain ⟨r', er⟩ : ∃ r', r = r' + 1 := ⟨r - 1, by omega⟩
      obtain ⟨t1, t2⟩ := hE r' er (40 :: s) (yps.mk (ynt B n p.tk) p.W (p.u + 1)) rfl (by unfold ydp; rw [if_pos (Or.inl rfl)]; omega) hn.1 (Or.inl (by decide))
      have one : ∀ f, ypsr B n (f + 1) true s p = ypsr B n f true (40 :: s) (yps.mk (ynt B n p.tk) p.W (p.u + 1)) := fun f => by
        rw [ypsr, if_neg hnot', if_pos c2.1, if_pos ⟨c2.2.2, by omega⟩]
      unfold yUn
      simp only [if_neg c1, if_pos c2]
      generalize hEE : E (yps.mk (ynt B n p.tk) p.W (p.u + 1)) = e at t1 t2 ⊢
      by_cases h0 : e.1 = 0
      · obtain ⟨j1, pd1, W2, a1, a2, a3, a4, a5, a6⟩ := t1 h0
        simp only [if_pos h0]
        have a5' : (ynt B n p.tk).s < e.2.tk.s := a5
        by_cases c3 : e.2.tk.k = 41
        · have hn2 := ytko_nx (B := B) a6 (by omega)
          simp only [if_pos c3]
          refine ⟨fun _ => ⟨1 + j1 + 1, [], W2 ++ ypfl pd1, fun f => ?_, ?_, yppd_nil, yst7_7, Nat.lt_trans hn.2 (Nat.lt_trans a5' hn2.2), hn2.1⟩, fun z => absurd rfl z⟩
          · have c := yclo_ap (m := 0) pd1 (40 :: s) W2 a3 (Nat.zero_le _) rfl
            rw [show 1 + j1 + 1 + f = (j1 + (f + 1)) + 1 by omega, one, a1, ypsr, if_pos ⟨c3, yhb_40 pd1 s⟩]
            show ypsr B n f false (yclo 0 (pd1 ++ 40 :: s) W2).1.tail (yps.mk (ynt B n e.2.tk) (yclo 0 (pd1 ++ 40 :: s) W2).2 e.2.u) = _
            rw [c]
            rfl
          · rw [a2]; exact List.append_nil _
        · simp only [if_neg c3]
          refine ⟨fun z => absurd z (by unfold yrf; split <;> omega), fun _ => ⟨1 + j1 + 1, pd1 ++ 40 :: s, yps.mk e.2.tk W2 e.2.u, fun f => ?_, rfl⟩⟩
          have ns : ¬ (yop e.2.tk.k = true ∧ ¬ (ytg e.2.tk.k = 4 ∧ yhr (pd1 ++ 40 :: s) = true)) := fun q => by
            have tg1 : 1 ≤ ytg e.2.tk.k := by unfold ytg; split <;> first | omega | (split <;> first | omega | (split <;> first | omega | (split <;> first | omega | (split <;> omega))))
            have w := a4 q.1 tg1
            exact q.2 ⟨w.1, yhr_ap _ _ w.2⟩
          rw [show 1 + j1 + 1 + f = (j1 + (f + 1)) + 1 by omega, one, a1, ypsr, if_neg (fun q => c3 q.1), if_neg (show ¬ (yop (yps.mk e.2.tk W2 e.2.u).tk.k = true ∧ ¬ (ytg (yps.mk e.2.tk W2 e.2.u).tk.k = 4 ∧ yhr (pd1 ++ 40 :: s) = true)) from ns), if_pos (yhb_40 pd1 s)]
          rfl
      · simp only [if_neg h0]
        refine ⟨fun z => absurd z h0, fun _ => ?_⟩
        obtain ⟨j1, s', p', b1, b2⟩ := t2 h0
        refine ⟨j1 + 1, s', p', fun f => ?_, b2⟩
        rw [show j1 + 1 + f = (j1 + f) + 1 by omega, one]
        exact b1 f
    · unfold yUn
      simp only [if_neg c1, if_neg c2]
      refine ⟨fun z => absurd z (by unfold yrf; split <;> omega), fun _ => ⟨1, s, p, fun f => ?_, rfl⟩⟩
      rw [Nat.add_comm 1 f, ypsr, if_neg hnot']
      by_cases k4 : p.tk.k = 40
      · rw [if_pos k4, if_neg (fun q => c2 ⟨k4, by omega, q.1⟩)]
        unfold yrf
        rw [if_neg (by omega)]
      · rw [if_neg k4, if_neg c1]
theorem yRl_T {r : Nat} {S : yRF} (hS : yTT B n 5 5 r S) : ∀ (s : List Nat) (p : yps), ypcn 4 s = true → ydp s + r = 7 → ytko n p.tk → p.tk.k ≠ 111 →
    ((yRl B n S p).1 = 0 → ∃ (j : Nat) (pd : List Nat) (W1 : List Int32), (∀ f, ypsr B n (j + f) true s p = ypsr B n f false (pd ++ s) (yps.mk (yRl B n S p).2.tk W1 (yRl B n S p).2.u)) ∧ W1 ++ ypfl pd = (yRl B n S p).2.W ∧ yppd 3 pd ∧ yst7 3 pd (yRl B n S p).2.tk.k ∧ p.tk.s < (yRl B n S p).2.tk.s ∧ ytko n (yRl B n S p).2.tk) ∧
    ((yRl B n S p).1 ≠ 0 → ∃ (j : Nat) (s' : List Nat) (p' : yps), (∀ f, ypsr B n (j + f) true s p = ((yRl B n S p).1, s', p')) ∧ p'.tk = (yRl B n S p).2.tk) := by
  intro s p hs hr ht h111
  obtain ⟨t1, t2⟩ := hS s p (ypcn_le (by decide) hs) hr ht (Or.inr (fun q => h111 q.1))
  unfold yRl
  by_cases h0 : (S p).1 = 0
  · obtain ⟨j1, pd1, W2, a1, a2, a3, a4, a5, a6⟩ := t1 h0
    simp only [if_pos h0]
    by_cases hi : yrel (S p).2.tk.k = true
    · simp only [if_pos hi]
      obtain ⟨ho, htg⟩ := yrel_op hi
      have g := yop_tg ho
      have hn := ytko_nx (B := B) a6 g.2.2.2.1
      have one : ∀ f, ypsr B n (f + 1) false (pd1 ++ s) (yps.mk (S p).2.tk W2 (S p).2.u) = ypsr B n f true ((S p).2.tk.k :: s) (yps.mk (ynt B n (S p).2.tk) (S p).2.W (S p).2.u) := fun f => by
        have c := yclo_ap (m := 4) pd1 s W2 a3 (by decide) hs
        have nr := yhr_no (l := 5) (by decide) pd1 s a3 hs
        rw [ypsr, if_neg (fun q => g.1 q.1), if_pos ⟨ho, fun q => by rw [nr] at q; cases q.2⟩]
        show ypsr B n f true ((S p).2.tk.k :: (yclo (ytg (S p).2.tk.k) (pd1 ++ s) W2).1) (yps.mk (ynt B n (S p).2.tk) (yclo (ytg (S p).2.tk.k) (pd1 ++ s) W2).2 (S p).2.u) = _
        rw [htg, c, a2]
      have cd : ydp ((S p).2.tk.k :: s) + r = 7 := by
        unfold ydp
        rw [if_neg (by omega)]
        omega
      obtain ⟨u1, u2⟩ := hS ((S p).2.tk.k :: s) (yps.mk (ynt B n (S p).2.tk) (S p).2.W (S p).2.u) (decide_eq_true (Or.inr (by omega))) cd hn.1 (Or.inr (fun w => by
        have : (S p).2.tk.k = 40 ∨ ytg (S p).2.tk.k < 4 := of_decide_eq_true w.2
        omega))
      generalize hE : S (yps.mk (ynt B n (S p).2.tk) (S p).2.W (S p).2.u) = e at u1 u2 ⊢
      by_cases h1 : e.1 = 0
      · simp only [if_pos h1]
        obtain ⟨j2, pd2, W3, b1, b2, b3, b4, b5, b6⟩ := u1 h1
        have b5' : (ynt B n (S p).2.tk).s < e.2.tk.s := b5
        refine ⟨fun _ => ⟨j1 + 1 + j2, pd2 ++ [(S p).2.tk.k], W3, fun f => ?_, ?_, fun x hx => ?_, fun a b => ?_, ?_, b6⟩, fun z => absurd rfl z⟩
        · rw [show j1 + 1 + j2 + f = j1 + ((j2 + f) + 1) by omega, a1, one, b1, List.append_assoc]
          rfl
        · show _ = e.2.W ++ [-(nI (S p).2.tk.k)]
          rw [yfl_ap, ← List.append_assoc, b2]
          rfl
        · rcases List.mem_append.mp hx with q | q
          · have := b3 x q; exact ⟨this.1, by omega⟩
          · rw [List.mem_singleton.mp q]; exact ⟨g.2.1, by omega⟩
        · have gk := yop_tg (k := e.2.tk.k) a
          rcases Nat.lt_or_ge (ytg e.2.tk.k) 5 with q | q
          · exact ⟨by have := gk.2.2.2.2.1; have b' : 3 ≤ ytg e.2.tk.k := b; show ytg e.2.tk.k = 4; omega, yhr_ye (by decide) htg g.2.1 pd2 [] b3⟩
          · have := b4 a q
            omega
        · show p.tk.s < e.2.tk.s
          have := hn.2
          omega
      · simp only [if_neg h1]
        refine ⟨fun z => absurd z h1, fun _ => ?_⟩
        obtain ⟨j2, s', p', b1, b2⟩ := u2 h1
        refine ⟨j1 + 1 + j2, s', p', fun f => ?_, b2⟩
        rw [show j1 + 1 + j2 + f = j1 + ((j2 + f) + 1) by omega, a1, one]
        exact b1 f
    · simp only [if_neg hi]
      refine ⟨fun _ => ⟨j1, pd1, W2, a1, a2, fun x hx => ⟨(a3 x hx).1, by have := (a3 x hx).2; omega⟩, fun a b => ?_, a5, a6⟩, fun z => absurd h0 z⟩
      have gk := yop_tg a
      rcases Nat.lt_or_ge (ytg (S p).2.tk.k) 5 with q | q
      · exact absurd (gk.2.2.2.2.2.2.2.1.mp (by have := gk.2.2.2.2.1; omega)) hi
      · exact a4 a q
  · simp only [if_neg h0]
    exact ⟨fun z => absurd z h0, fun _ => t2 h0⟩
theorem yOn_T {r : Nat} {O E : yRF} (hn0 : n ≤ 1600) (hO : ∀ r', r = r' + 1 → yTT B n 4 3 r' O) (hE : ∀ r', r = r' + 1 → yTT B n 1 1 r' E) : yTT B n 4 3 r (yOn B n O E r) := by
  intro s p hs hr ht _
  have tU : yTT B n 7 7 r (yUn B n E r) := yUn_T hE
  have tT : yTT B n 6 6 r (yTe B n E r) := yLv_T (l := 6) hn0 tU (by decide) (by decide) (fun k h => ymul_op h) (fun k a b => (yop_tg a).2.2.2.2.2.1.mp b) (Or.inr (by decide))
  have tS : yTT B n 5 5 r (ySu B n E r) := yLv_T (l := 5) hn0 tT (by decide) (by decide) (fun k h => yadd_op h) (fun k a b => (yop_tg a).2.2.2.2.2.2.1.mp b) (Or.inr (by decide))
  unfold yOn
  by_cases c : p.tk.k = 111
  · simp only [if_pos c]
    have hn := ytko_nx (B := B) ht (by omega)
    by_cases c0 : r = 0
    · simp only [if_pos c0]
      refine ⟨fun z => absurd z (by decide), fun _ => ⟨1, s, p, fun f => ?_, rfl⟩⟩
      rw [Nat.add_comm 1 f, ypsr, if_pos ⟨c, hs⟩, if_neg (by omega)]
    · simp only [if_neg c0]
      obtain ⟨r', er⟩ : ∃ r', r = r' + 1 := ⟨r - 1, by omega⟩
      have one : ∀ f, ypsr B n (f + 1) true s p = ypsr B n f true (111 :: s) (yps.mk (ynt B n p.tk) p.W p.u) := fun f => by
        rw [ypsr, if_pos ⟨c, hs⟩, if_pos (by omega)]
      obtain ⟨t1, t2⟩ := hO r' er (111 :: s) (yps.mk (ynt B n p.tk) p.W p.u) rfl (by unfold ydp; rw [if_pos (Or.inr rfl)]; omega) hn.1 (Or.inl (by decide))
      generalize hEE : O (yps.mk (ynt B n p.tk) p.W p.u) = e at t1 t2 ⊢
      by_cases h0 : e.1 = 0
      · simp only [if_pos h0]
        obtain ⟨j1, pd1, W2, a1, a2, a3, a4, a5, a6⟩ := t1 h0
        have a5' : (ynt B n p.tk).s < e.2.tk.s := a5
        refine ⟨fun _ => ⟨1 + j1, pd1 ++ [111], W2, fun f => ?_, ?_, fun x hx => ?_, yst7_ap a4, Nat.lt_trans hn.2 a5', a6⟩, fun z => absurd rfl z⟩
        · rw [show 1 + j1 + f = (j1 + f) + 1 by omega, one, a1, List.append_assoc]
          rfl
        · show _ = e.2.W ++ [-(nI 111)]
          rw [yfl_ap, ← List.append_assoc, a2]
          rfl
        · rcases List.mem_append.mp hx with q | q
          · exact a3 x q
          · rw [List.mem_singleton.mp q]; decide
      · simp only [if_neg h0]
        refine ⟨fun z => absurd z h0, fun _ => ?_⟩
        obtain ⟨j1, s', p', b1, b2⟩ := t2 h0
        refine ⟨j1 + 1, s', p', fun f => ?_, b2⟩
        rw [show j1 + 1 + f = (j1 + f) + 1 by omega, one]
        exact b1 f
  · simp only [if_neg c]
    exact yRl_T tS s p hs hr ht c
theorem yEi_T {r : Nat} {o : yRF} (hn0 : n ≤ 1600) (h : yTT B n 4 3 r o) : yTT B n 1 1 r (yEi B n o) := by
  have tB : yTT B n 2 2 r (yBo B n o) := yLv_T (l := 2) hn0 h (by decide) (by decide) (fun k h => yan_op h) (fun k a b => (yop_tg a).2.2.2.2.2.2.2.2.1.mp b) (Or.inl (by decide))
  exact yLv_T (l := 1) hn0 tB (by decide) (by decide) (fun k h => yor_op h) (fun k a b => (yop_tg a).2.2.2.2.2.2.2.2.2.1.mp b) (Or.inl (by decide))
theorem yOr_T (hn0 : n ≤ 1600) : ∀ r, yTT B n 4 3 r (yOr B n r)
  | 0 => yOn_T hn0 (fun r' h => by omega) (fun r' h => by omega)
  | r + 1 => yOn_T hn0 (fun r' h => by
      have : r' = r := by omega
      subst this
      exact yOr_T hn0 r') (fun r' h => by
      have : r' = r := by omega
      subst this
      exact yEi_T hn0 (yOr_T hn0 r'))
/-- the whole formula: the stack's way comes to the descent's end -/
theorem ysr_T (hn0 : n ≤ 1600) (p : yps) (ht : ytko n p.tk) :
    ((yEi B n (yOr B n 7) p).1 = 0 → ∃ f, ypsr B n f true [] p = (0, [], (yEi B n (yOr B n 7) p).2)) ∧
    ((yEi B n (yOr B n 7) p).1 ≠ 0 → ∃ f s' p', ypsr B n f true [] p = ((yEi B n (yOr B n 7) p).1, s', p') ∧ p'.tk = (yEi B n (yOr B n 7) p).2.tk) := by
  obtain ⟨t1, t2⟩ := yEi_T hn0 (yOr_T (B := B) hn0 7) [] p rfl rfl ht (Or.inl (by decide))
  generalize yEi B n (yOr B n 7) p = e at t1 t2 ⊢
  refine ⟨fun h0 => ?_, fun h0 => ?_⟩
  · obtain ⟨j1, pd1, W2, a1, a2, a3, a4, a5, a6⟩ := t1 h0
    refine ⟨j1 + 1, ?_⟩
    have ns : ¬ (yop e.2.tk.k = true ∧ ¬ (ytg e.2.tk.k = 4 ∧ yhr pd1 = true)) := fun q => by
      have tg1 : 1 ≤ ytg e.2.tk.k := by unfold ytg; split <;> first | omega | (split <;> first | omega | (split <;> first | omega | (split <;> first | omega | (split <;> omega))))
      exact q.2 (a4 q.1 tg1)
    have c := yclo_ap (m := 0) pd1 [] W2 a3 (Nat.zero_le _) rfl
    rw [List.append_nil] at c
    rw [a1, List.append_nil, ypsr, if_neg (fun q => by rw [yhb_pd a3] at q; cases q.2), if_neg (show ¬ (yop (yps.mk e.2.tk W2 e.2.u).tk.k = true ∧ ¬ (ytg (yps.mk e.2.tk W2 e.2.u).tk.k = 4 ∧ yhr pd1 = true)) from ns), yhb_pd a3, if_neg (by decide)]
    show (0, [], yps.mk e.2.tk (yclo 0 pd1 W2).2 e.2.u) = (0, [], e.2)
    rw [c, a2]
    rfl
  · obtain ⟨j1, s', p', b1, b2⟩ := t2 h0
    exact ⟨j1 + 0, s', p', b1 0, b2⟩
end DESC
