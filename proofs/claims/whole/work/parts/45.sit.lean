/-! a READING: what it makes of a State, and that the class does so -/
def yset (p : Nat → Bool) : Nat → Int32
  | 0 => 0
  | n + 1 => if p n then yset p n ||| (1 <<< (nI n &&& 31)) else yset p n
theorem b_one {m : Nat} (hm : m < 32) {i : Nat} (hi : i < 32) : bt (1 <<< (nI m &&& 31)) i = decide (i = m) := by
  rw [b_shl m hm 1 hi]
  by_cases h : m ≤ i
  · rw [b_1 (i - m) (by omega), decide_eq_true h, Bool.true_and]
    by_cases e : i = m
    · rw [decide_eq_true e, decide_eq_true (by omega)]
    · rw [decide_eq_false e, decide_eq_false (by omega)]
  · rw [decide_eq_false h, Bool.false_and, decide_eq_false (by omega)]
theorem b_set {p : Nat → Bool} : ∀ (n : Nat), n ≤ 32 → ∀ i, i < 32 → bt (yset p n) i = (decide (i < n) && p i)
  | 0, _, i, _ => by rw [yset, b_0]; rfl
  | n + 1, hn, i, hi => by
    have ih := b_set (p := p) n (by omega) i hi
    rw [yset]
    by_cases e : i = n
    · subst e
      cases hp : p i
      · rw [if_neg (by decide), ih, hp, Bool.and_false, Bool.and_false]
      · rw [if_pos rfl, b_or, b_one (by omega) hi, decide_eq_true rfl, Bool.or_true, decide_eq_true (by omega)]; rfl
    · have q : decide (i < n + 1) = decide (i < n) := by
        by_cases h : i < n
        · rw [decide_eq_true h, decide_eq_true (by omega)]
        · rw [decide_eq_false h, decide_eq_false (by omega)]
      cases hp : p n
      · rw [if_neg (by decide), ih, q]
      · rw [if_pos rfl, b_or, b_one (by omega) hi, decide_eq_false e, Bool.or_false, ih, q]
theorem y_all : ∀ n, n ≤ 7 → ∀ i, i < 32 → bt ((1 <<< (nI n &&& 31)) - 1) i = decide (i < n) := by decide +kernel
def ymi (H : yH) (mo : Int32) (m : Nat) : Int32 := if mo = -1 then H.mi m else mo
def yre (S : Nat → Int32) : Int32 := ymc (S 8) 7 0 0
def yno (H : yH) (mo q fa : Int32) (S : Nat → Int32) (m : Nat) : Int32 := ynw (S m) (zwv H.ss q (ymi H mo m) (H.vo m) (S m) fa (yre S))
def yoff (H : yH) (mo q fa : Int32) (S : Nat → Int32) (m : Nat) : Bool := bt (S 7) m && !decide (yno H mo q fa S m < H.cock)
def yfor (H : yH) (mo q fa : Int32) (S : Nat → Int32) (m : Nat) : Bool := !bt (S 7) m || (decide (yno H mo q fa S m < H.cock) && decide (2 * yno H mo q fa S m < H.cock))
def yS1 (H : yH) (mo q fa : Int32) (S : Nat → Int32) (n : Nat) (j : Nat) : Int32 := if j < n ∧ bt (S 7) j = true then (if yno H mo q fa S j < H.cock then yno H mo q fa S j else 0) else S j
def ypas (H : yH) (mo q fa : Int32) (S : Nat → Int32) : Bool := decide (yset (yoff H mo q fa S) H.n = 0) && !decide (zvs H.vo (yset (yfor H mo q fa S) H.n) H.n 0 0 < H.quota)
def ysit (H : yH) (mo q fa : Int32) (c : Nat) (S : Nat → Int32) (j : Nat) : Int32 := if j = 8 then S 8 ||| (1 <<< (nI c &&& 31)) else if j = 9 then (if ypas H mo q fa S then S 9 ||| (1 <<< (nI c &&& 31)) else S 9) else yS1 H mo q fa S H.n j
theorem yor0 (x : Int32) : x ||| 0 = x := b_ext (fun i _ => by rw [b_or, b_0, Bool.or_false])
