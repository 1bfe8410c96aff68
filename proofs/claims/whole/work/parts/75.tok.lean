/-! tokens, as data -/
def ylet (b : Nat) : Bool := decide (97 ≤ b) && decide (b ≤ 122)
def ydig (b : Nat) : Bool := decide (48 ≤ b) && decide (b ≤ 57)
def yspc (b : Nat) : Bool := decide (b = 32) || decide (b = 10)
def ysig (b : Nat) : Bool := decide (b = 59) || (decide (b = 40) || (decide (b = 41) || (decide (b = 60) || (decide (b = 62) || (decide (b = 61) || (decide (b = 43) || (decide (b = 45) || (decide (b = 42) || (decide (b = 47) || decide (b = 37))))))))))
/-- the first place from i on that is not such a one -/
def yend (P : Nat → Bool) (B : Nat → Nat) (n : Nat) : Nat → Nat → Nat
  | 0, i => i
  | m + 1, i => if i < n ∧ P (B i) = true then yend P B n m (i + 1) else i
def yE (P : Nat → Bool) (B : Nat → Nat) (n i : Nat) : Nat := yend P B n (n - i) i
/-- the letters from s on, m of them -/
def yltr (B : Nat → Nat) : Nat → Nat → List Nat
  | _, 0 => []
  | s, m + 1 => yltr B s m ++ [B (s + m) - 96]
def ynum (B : Nat → Nat) : Nat → Nat → Nat
  | _, 0 => 0
  | s, m + 1 => 10 * ynum B s m + (B (s + m) - 48)
def ykw : List (List Nat) := [[13, 5, 13, 2, 5, 18], [3, 12, 1, 21, 19, 5], [23, 9, 14, 4, 19], [3, 15, 3, 11], [17, 21, 15, 20, 1], [16, 21, 14, 19], [4, 18, 1, 23], [9, 14], [15, 21, 20], [15, 18], [1, 14, 4], [14, 15, 20], [19, 8, 1, 18, 16], [13, 9, 14, 4, 19], [22, 15, 20, 5, 19], [14, 15, 20, 3, 8], [6, 1, 12, 12, 9, 14, 7], [18, 5, 1, 4]]
/-- the place of a word among the own ones, from i on -/
def ykx (w : List Nat) : Nat → Nat → Option Nat
  | 0, _ => none
  | m + 1, i => if ykw.getD i [] = w then some i else ykx w m (i + 1)
def yknd (w : List Nat) : Nat := match ykx w 18 0 with
  | some i => 100 + i
  | none => 3
/-- a token: kind, place, end, number, letters -/
def ytkT : Type := Nat × Nat × Nat × Nat × List Nat
def ytkT.mk (k s e n : Nat) (w : List Nat) : ytkT := (k, s, e, n, w)
def ytkT.k (a : ytkT) : Nat := a.1
def ytkT.s (a : ytkT) : Nat := a.2.1
def ytkT.e (a : ytkT) : Nat := a.2.2.1
def ytkT.n (a : ytkT) : Nat := a.2.2.2.1
def ytkT.w (a : ytkT) : List Nat := a.2.2.2.2
def ytk1 (B : Nat → Nat) (n s : Nat) : ytkT :=
  if s < n then
    (if ylet (B s) then (if 8 < yE ylet B n s - s then ytkT.mk 0 s (yE ylet B n s) 0 (yltr B s (yE ylet B n s - s)) else ytkT.mk (yknd (yltr B s (yE ylet B n s - s))) s (yE ylet B n s) 0 (yltr B s (yE ylet B n s - s)))
     else if ydig (B s) then (if 4 < yE ydig B n s - s ∨ (yE ydig B n s < n ∧ ylet (B (yE ydig B n s)) = true) then ytkT.mk 0 s (yE ydig B n s) 0 [] else ytkT.mk 2 s (yE ydig B n s) (ynum B s (yE ydig B n s - s)) [])
     else if ysig (B s) then ytkT.mk (B s) s (s + 1) 0 [] else ytkT.mk 0 s (s + 1) 0 [])
  else ytkT.mk 1 s s 0 []
def ytok (B : Nat → Nat) (n p : Nat) : ytkT := ytk1 B n (yE yspc B n p)
theorem yend_ge {P : Nat → Bool} {B : Nat → Nat} {n : Nat} : ∀ (m i : Nat), i ≤ yend P B n m i
  | 0, i => Nat.le_refl _
  | m + 1, i => by
    unfold yend
    split
    · have := yend_ge (P := P) (B := B) (n := n) m (i + 1); omega
    · exact Nat.le_refl _
theorem yend_le {P : Nat → Bool} {B : Nat → Nat} {n : Nat} : ∀ (m i : Nat), i ≤ n → yend P B n m i ≤ n
  | 0, i, h => h
  | m + 1, i, h => by
    unfold yend
    split
    · exact yend_le m (i + 1) (by omega)
    · exact h
theorem yend_p {P : Nat → Bool} {B : Nat → Nat} {n : Nat} : ∀ (m i j : Nat), i ≤ j → j < yend P B n m i → P (B j) = true
  | 0, i, j, h1, h2 => by unfold yend at h2; omega
  | m + 1, i, j, h1, h2 => by
    unfold yend at h2
    split at h2
    · by_cases e : j = i
      · rw [e]; exact ‹i < n ∧ P (B i) = true›.2
      · exact yend_p m (i + 1) j (by omega) h2
    · omega
theorem yend_q {P : Nat → Bool} {B : Nat → Nat} {n : Nat} : ∀ (m i : Nat), n ≤ i + m → ¬ (yend P B n m i < n ∧ P (B (yend P B n m i)) = true)
  | 0, i, h => by unfold yend; omega
  | m + 1, i, h => by
    unfold yend
    split
    · exact yend_q m (i + 1) (by omega)
    · exact ‹_›
theorem yE_ge {P : Nat → Bool} {B : Nat → Nat} {n i : Nat} : i ≤ yE P B n i := yend_ge _ _
theorem yE_le {P : Nat → Bool} {B : Nat → Nat} {n i : Nat} (h : i ≤ n) : yE P B n i ≤ n := yend_le _ _ h
theorem yE_p {P : Nat → Bool} {B : Nat → Nat} {n i j : Nat} (h1 : i ≤ j) (h2 : j < yE P B n i) : P (B j) = true := yend_p _ _ _ h1 h2
theorem yE_q {P : Nat → Bool} {B : Nat → Nat} {n i : Nat} : ¬ (yE P B n i < n ∧ P (B (yE P B n i)) = true) := yend_q _ _ (by omega)
/-- by one step, or none -/
theorem yE_s {P : Nat → Bool} {B : Nat → Nat} {n i : Nat} (h : i < n) (hp : P (B i) = true) : yE P B n i = yE P B n (i + 1) := by
  unfold yE
  obtain ⟨m, hm⟩ : ∃ m, n - i = m + 1 := ⟨n - i - 1, by omega⟩
  rw [hm, yend, if_pos ⟨h, hp⟩, show n - (i + 1) = m by omega]
theorem yE_n {P : Nat → Bool} {B : Nat → Nat} {n i : Nat} (h : ¬ (i < n ∧ P (B i) = true)) : yE P B n i = i := by
  unfold yE
  cases hm : n - i with
  | zero => rfl
  | succ m => rw [yend, if_neg h]
theorem yE_gt {P : Nat → Bool} {B : Nat → Nat} {n i : Nat} (h : i < n) (hp : P (B i) = true) : i < yE P B n i := by
  rw [yE_s h hp]
  exact yE_ge
/-- codes of words: digits of a base, the last letter the lowest -/
def ycd (b : Nat) : List Nat → Nat
  | [] => 0
  | x :: r => b * ycd b r + x
theorem ycd_inj {b : Nat} : ∀ (l l' : List Nat), (∀ x, x ∈ l → 0 < x ∧ x < b) → (∀ x, x ∈ l' → 0 < x ∧ x < b) → ycd b l = ycd b l' → l = l'
  | [], [], _, _, _ => rfl
  | [], y :: r', _, h', e => by
    have := (h' y List.mem_cons_self).1
    unfold ycd at e
    omega
  | x :: r, [], h, _, e => by
    have := (h x List.mem_cons_self).1
    unfold ycd at e
    omega
  | x :: r, y :: r', h, h', e => by
    have hx := h x List.mem_cons_self
    have hy := h' y List.mem_cons_self
    unfold ycd at e
    have e1 : x = y := by
      have a := congrArg (· % b) e
      simp only [Nat.mul_add_mod, Nat.mod_eq_of_lt hx.2, Nat.mod_eq_of_lt hy.2] at a
      exact a
    have e2 : ycd b r = ycd b r' := by
      have : b * ycd b r = b * ycd b r' := by omega
      exact Nat.eq_of_mul_eq_mul_left (by omega) this
    rw [e1, ycd_inj r r' (fun x hx => h x (List.mem_cons_of_mem _ hx)) (fun x hx => h' x (List.mem_cons_of_mem _ hx)) e2]
theorem ycd_lt {b : Nat} (hb : 1 ≤ b) : ∀ (l : List Nat), (∀ x, x ∈ l → x < b) → ycd b l < b ^ l.length
  | [], _ => by show 0 < b ^ 0; rw [Nat.pow_zero]; decide
  | x :: r, h => by
    have ih := ycd_lt hb r (fun x hx => h x (List.mem_cons_of_mem _ hx))
    have hx := h x List.mem_cons_self
    unfold ycd
    rw [List.length_cons, Nat.pow_succ]
    have : b * (ycd b r + 1) ≤ b * b ^ r.length := Nat.mul_le_mul_left b ih
    rw [Nat.mul_add, Nat.mul_one] at this
    rw [Nat.mul_comm (b ^ r.length) b]
    omega
theorem yltr_len (B : Nat → Nat) : ∀ s m, (yltr B s m).length = m
  | _, 0 => rfl
  | s, m + 1 => by rw [yltr, List.length_append, yltr_len B s m]; rfl
theorem yltr_in {B : Nat → Nat} : ∀ (s m : Nat), (∀ j, j < m → ylet (B (s + j)) = true) → ∀ x, x ∈ yltr B s m → 0 < x ∧ x ≤ 26
  | _, 0, _, x, hx => by cases hx
  | s, m + 1, h, x, hx => by
    rw [yltr, List.mem_append] at hx
    rcases hx with hx | hx
    · exact yltr_in s m (fun j hj => h j (by omega)) x hx
    · have := h m (by omega)
      unfold ylet at this
      rw [Bool.and_eq_true_iff] at this
      have a := of_decide_eq_true this.1
      have b := of_decide_eq_true this.2
      rw [List.mem_singleton.mp hx]
      omega
theorem ykw_in : ∀ i, i < 18 → ∀ x, x ∈ ykw.getD i [] → 0 < x ∧ x ≤ 26 := by decide
theorem ykw_len : ∀ i, i < 18 → (ykw.getD i []).length ≤ 8 := by decide
theorem ykw_ne : ∀ i, i < 18 → ∀ j, j < 18 → ykw.getD i [] = ykw.getD j [] → i = j := by decide
