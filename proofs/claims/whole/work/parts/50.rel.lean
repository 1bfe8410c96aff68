/-! what class and model hold together: the whole state as data -/
def yfo {α : Type} (f : Nat → α → α) : Nat → Nat → α → α
  | 0, _, a => a
  | k + 1, i, a => yfo f k (i + 1) (f i a)
theorem yfo_congr {α : Type} {f g : Nat → α → α} : ∀ (k i : Nat) (a : α), (∀ j b, i ≤ j → j < i + k → f j b = g j b) → yfo f k i a = yfo g k i a
  | 0, _, _, _ => rfl
  | k + 1, i, a, h => by
    unfold yfo
    rw [h i a (by omega) (by omega)]
    exact yfo_congr k (i + 1) _ (fun j b h1 h2 => h j b (by omega) (by omega))
/-- an invariant through a fold -/
theorem yfo_inv {α : Type} {f : Nat → α → α} (P : Nat → α → Prop) : ∀ (k i : Nat) (a : α), P i a → (∀ j b, i ≤ j → j < i + k → P j b → P (j + 1) (f j b)) → P (i + k) (yfo f k i a)
  | 0, _, _, h, _ => h
  | k + 1, i, a, h, hs => by
    unfold yfo
    have := yfo_inv P k (i + 1) (f i a) (hs i a (by omega) (by omega) h) (fun j b h1 h2 hp => hs j b (by omega) (by omega) hp)
    rw [show i + (k + 1) = i + 1 + k by omega]
    exact this
/-- a byte as the class holds it -/
def ysx (v : Int32) : Int32 := v.toInt8.toInt32
def yope (H : yH) : Bool := decide (0 < H.n) && bt H.out (H.n - 1)
/-- the last one's notches behind n readings, minding v -/
def ytr1 (H : yH) (v : Int32) (n : Nat) (no : Int32) : Int32 := if n < H.k then (if ynw no (zwv H.ss (H.sh n) v (H.vo (H.n - 1)) no 0 (nI n)) < H.cock then ynw no (zwv H.ss (H.sh n) v (H.vo (H.n - 1)) no 0 (nI n)) else 0) else no
def ytr (H : yH) (v : Int32) : Nat → Int32
  | 0 => 0
  | n + 1 => ytr1 H v n (ytr H v n)
def yX : Type := (yH) × (Nat → Int32) × (Nat) × (Nat → Int32) × (Int32) × (Int32) × (Nat) × (Nat) × (Nat → Nat → Int32) × (Nat) × (Nat → Int32) × (Nat) × (Int32) × (Nat → Nat) × (Nat → Int32) × (Nat → Bool) × (Nat → Int32) × (Nat → Int32) × (Nat → Bool) × (Nat → Nat → Int32)
def yX.H (h : yX) : yH := h.1
def yX.S (h : yX) : Nat → Int32 := h.2.1
def yX.len (h : yX) : Nat := h.2.2.1
def yX.tp (h : yX) : Nat → Int32 := h.2.2.2.1
def yX.fau (h : yX) : Int32 := h.2.2.2.2.1
def yX.pla (h : yX) : Int32 := h.2.2.2.2.2.1
def yX.don (h : yX) : Nat := h.2.2.2.2.2.2.1
def yX.und (h : yX) : Nat := h.2.2.2.2.2.2.2.1
def yX.hi (h : yX) : Nat → Nat → Int32 := h.2.2.2.2.2.2.2.2.1
def yX.lai (h : yX) : Nat := h.2.2.2.2.2.2.2.2.2.1
def yX.lie (h : yX) : Nat → Int32 := h.2.2.2.2.2.2.2.2.2.2.1
def yX.cnt (h : yX) : Nat := h.2.2.2.2.2.2.2.2.2.2.2.1
def yX.tim (h : yX) : Int32 := h.2.2.2.2.2.2.2.2.2.2.2.2.1
def yX.sof (h : yX) : Nat → Nat := h.2.2.2.2.2.2.2.2.2.2.2.2.2.1
def yX.sno (h : yX) : Nat → Int32 := h.2.2.2.2.2.2.2.2.2.2.2.2.2.2.1
def yX.sis (h : yX) : Nat → Bool := h.2.2.2.2.2.2.2.2.2.2.2.2.2.2.2.1
def yX.sto (h : yX) : Nat → Int32 := h.2.2.2.2.2.2.2.2.2.2.2.2.2.2.2.2.1
def yX.sun (h : yX) : Nat → Int32 := h.2.2.2.2.2.2.2.2.2.2.2.2.2.2.2.2.2.1
def yX.bxf (h : yX) : Nat → Bool := h.2.2.2.2.2.2.2.2.2.2.2.2.2.2.2.2.2.2.1
def yX.bx (h : yX) : Nat → Nat → Int32 := h.2.2.2.2.2.2.2.2.2.2.2.2.2.2.2.2.2.2.2
def yX.mk (H_ : yH) (S_ : Nat → Int32) (len_ : Nat) (tp_ : Nat → Int32) (fau_ : Int32) (pla_ : Int32) (don_ : Nat) (und_ : Nat) (hi_ : Nat → Nat → Int32) (lai_ : Nat) (lie_ : Nat → Int32) (cnt_ : Nat) (tim_ : Int32) (sof_ : Nat → Nat) (sno_ : Nat → Int32) (sis_ : Nat → Bool) (sto_ : Nat → Int32) (sun_ : Nat → Int32) (bxf_ : Nat → Bool) (bx_ : Nat → Nat → Int32) : yX := (H_, S_, len_, tp_, fau_, pla_, don_, und_, hi_, lai_, lie_, cnt_, tim_, sof_, sno_, sis_, sto_, sun_, bxf_, bx_)
def yX.w_H (h : yX) (v : yH) : yX := (v, h.2.1, h.2.2.1, h.2.2.2.1, h.2.2.2.2.1, h.2.2.2.2.2.1, h.2.2.2.2.2.2.1, h.2.2.2.2.2.2.2.1, h.2.2.2.2.2.2.2.2.1, h.2.2.2.2.2.2.2.2.2.1, h.2.2.2.2.2.2.2.2.2.2.1, h.2.2.2.2.2.2.2.2.2.2.2.1, h.2.2.2.2.2.2.2.2.2.2.2.2.1, h.2.2.2.2.2.2.2.2.2.2.2.2.2.1, h.2.2.2.2.2.2.2.2.2.2.2.2.2.2.1, h.2.2.2.2.2.2.2.2.2.2.2.2.2.2.2.1, h.2.2.2.2.2.2.2.2.2.2.2.2.2.2.2.2.1, h.2.2.2.2.2.2.2.2.2.2.2.2.2.2.2.2.2.1, h.2.2.2.2.2.2.2.2.2.2.2.2.2.2.2.2.2.2.1, h.2.2.2.2.2.2.2.2.2.2.2.2.2.2.2.2.2.2.2)
def yX.w_S (h : yX) (v : Nat → Int32) : yX := (h.1, v, h.2.2.1, h.2.2.2.1, h.2.2.2.2.1, h.2.2.2.2.2.1, h.2.2.2.2.2.2.1, h.2.2.2.2.2.2.2.1, h.2.2.2.2.2.2.2.2.1, h.2.2.2.2.2.2.2.2.2.1, h.2.2.2.2.2.2.2.2.2.2.1, h.2.2.2.2.2.2.2.2.2.2.2.1, h.2.2.2.2.2.2.2.2.2.2.2.2.1, h.2.2.2.2.2.2.2.2.2.2.2.2.2.1, h.2.2.2.2.2.2.2.2.2.2.2.2.2.2.1, h.2.2.2.2.2.2.2.2.2.2.2.2.2.2.2.1, h.2.2.2.2.2.2.2.2.2.2.2.2.2.2.2.2.1, h.2.2.2.2.2.2.2.2.2.2.2.2.2.2.2.2.2.1, h.2.2.2.2.2.2.2.2.2.2.2.2.2.2.2.2.2.2.1, h.2.2.2.2.2.2.2.2.2.2.2.2.2.2.2.2.2.2.2)
def yX.w_len (h : yX) (v : Nat) : yX := (h.1, h.2.1, v, h.2.2.2.1, h.2.2.2.2.1, h.2.2.2.2.2.1, h.2.2.2.2.2.2.1, h.2.2.2.2.2.2.2.1, h.2.2.2.2.2.2.2.2.1, h.2.2.2.2.2.2.2.2.2.1, h.2.2.2.2.2.2.2.2.2.2.1, h.2.2.2.2.2.2.2.2.2.2.2.1, h.2.2.2.2.2.2.2.2.2.2.2.2.1, h.2.2.2.2.2.2.2.2.2.2.2.2.2.1, h.2.2.2.2.2.2.2.2.2.2.2.2.2.2.1, h.2.2.2.2.2.2.2.2.2.2.2.2.2.2.2.1, h.2.2.2.2.2.2.2.2.2.2.2.2.2.2.2.2.1, h.2.2.2.2.2.2.2.2.2.2.2.2.2.2.2.2.2.1, h.2.2.2.2.2.2.2.2.2.2.2.2.2.2.2.2.2.2.1, h.2.2.2.2.2.2.2.2.2.2.2.2.2.2.2.2.2.2.2)
def yX.w_tp (h : yX) (v : Nat → Int32) : yX := (h.1, h.2.1, h.2.2.1, v, h.2.2.2.2.1, h.2.2.2.2.2.1, h.2.2.2.2.2.2.1, h.2.2.2.2.2.2.2.1, h.2.2.2.2.2.2.2.2.1, h.2.2.2.2.2.2.2.2.2.1, h.2.2.2.2.2.2.2.2.2.2.1, h.2.2.2.2.2.2.2.2.2.2.2.1, h.2.2.2.2.2.2.2.2.2.2.2.2.1, h.2.2.2.2.2.2.2.2.2.2.2.2.2.1, h.2.2.2.2.2.2.2.2.2.2.2.2.2.2.1, h.2.2.2.2.2.2.2.2.2.2.2.2.2.2.2.1, h.2.2.2.2.2.2.2.2.2.2.2.2.2.2.2.2.1, h.2.2.2.2.2.2.2.2.2.2.2.2.2.2.2.2.2.1, h.2.2.2.2.2.2.2.2.2.2.2.2.2.2.2.2.2.2.1, h.2.2.2.2.2.2.2.2.2.2.2.2.2.2.2.2.2.2.2)
def yX.w_fau (h : yX) (v : Int32) : yX := (h.1, h.2.1, h.2.2.1, h.2.2.2.1, v, h.2.2.2.2.2.1, h.2.2.2.2.2.2.1, h.2.2.2.2.2.2.2.1, h.2.2.2.2.2.2.2.2.1, h.2.2.2.2.2.2.2.2.2.1, h.2.2.2.2.2.2.2.2.2.2.1, h.2.2.2.2.2.2.2.2.2.2.2.1, h.2.2.2.2.2.2.2.2.2.2.2.2.1, h.2.2.2.2.2.2.2.2.2.2.2.2.2.1, h.2.2.2.2.2.2.2.2.2.2.2.2.2.2.1, h.2.2.2.2.2.2.2.2.2.2.2.2.2.2.2.1, h.2.2.2.2.2.2.2.2.2.2.2.2.2.2.2.2.1, h.2.2.2.2.2.2.2.2.2.2.2.2.2.2.2.2.2.1, h.2.2.2.2.2.2.2.2.2.2.2.2.2.2.2.2.2.2.1, h.2.2.2.2.2.2.2.2.2.2.2.2.2.2.2.2.2.2.2)
def yX.w_pla (h : yX) (v : Int32) : yX := (h.1, h.2.1, h.2.2.1, h.2.2.2.1, h.2.2.2.2.1, v, h.2.2.2.2.2.2.1, h.2.2.2.2.2.2.2.1, h.2.2.2.2.2.2.2.2.1, h.2.2.2.2.2.2.2.2.2.1, h.2.2.2.2.2.2.2.2.2.2.1, h.2.2.2.2.2.2.2.2.2.2.2.1, h.2.2.2.2.2.2.2.2.2.2.2.2.1, h.2.2.2.2.2.2.2.2.2.2.2.2.2.1, h.2.2.2.2.2.2.2.2.2.2.2.2.2.2.1, h.2.2.2.2.2.2.2.2.2.2.2.2.2.2.2.1, h.2.2.2.2.2.2.2.2.2.2.2.2.2.2.2.2.1, h.2.2.2.2.2.2.2.2.2.2.2.2.2.2.2.2.2.1, h.2.2.2.2.2.2.2.2.2.2.2.2.2.2.2.2.2.2.1, h.2.2.2.2.2.2.2.2.2.2.2.2.2.2.2.2.2.2.2)
def yX.w_don (h : yX) (v : Nat) : yX := (h.1, h.2.1, h.2.2.1, h.2.2.2.1, h.2.2.2.2.1, h.2.2.2.2.2.1, v, h.2.2.2.2.2.2.2.1, h.2.2.2.2.2.2.2.2.1, h.2.2.2.2.2.2.2.2.2.1, h.2.2.2.2.2.2.2.2.2.2.1, h.2.2.2.2.2.2.2.2.2.2.2.1, h.2.2.2.2.2.2.2.2.2.2.2.2.1, h.2.2.2.2.2.2.2.2.2.2.2.2.2.1, h.2.2.2.2.2.2.2.2.2.2.2.2.2.2.1, h.2.2.2.2.2.2.2.2.2.2.2.2.2.2.2.1, h.2.2.2.2.2.2.2.2.2.2.2.2.2.2.2.2.1, h.2.2.2.2.2.2.2.2.2.2.2.2.2.2.2.2.2.1, h.2.2.2.2.2.2.2.2.2.2.2.2.2.2.2.2.2.2.1, h.2.2.2.2.2.2.2.2.2.2.2.2.2.2.2.2.2.2.2)
def yX.w_und (h : yX) (v : Nat) : yX := (h.1, h.2.1, h.2.2.1, h.2.2.2.1, h.2.2.2.2.1, h.2.2.2.2.2.1, h.2.2.2.2.2.2.1, v, h.2.2.2.2.2.2.2.2.1, h.2.2.2.2.2.2.2.2.2.1, h.2.2.2.2.2.2.2.2.2.2.1, h.2.2.2.2.2.2.2.2.2.2.2.1, h.2.2.2.2.2.2.2.2.2.2.2.2.1, h.2.2.2.2.2.2.2.2.2.2.2.2.2.1, h.2.2.2.2.2.2.2.2.2.2.2.2.2.2.1, h.2.2.2.2.2.2.2.2.2.2.2.2.2.2.2.1, h.2.2.2.2.2.2.2.2.2.2.2.2.2.2.2.2.1, h.2.2.2.2.2.2.2.2.2.2.2.2.2.2.2.2.2.1, h.2.2.2.2.2.2.2.2.2.2.2.2.2.2.2.2.2.2.1, h.2.2.2.2.2.2.2.2.2.2.2.2.2.2.2.2.2.2.2)
def yX.w_hi (h : yX) (v : Nat → Nat → Int32) : yX := (h.1, h.2.1, h.2.2.1, h.2.2.2.1, h.2.2.2.2.1, h.2.2.2.2.2.1, h.2.2.2.2.2.2.1, h.2.2.2.2.2.2.2.1, v, h.2.2.2.2.2.2.2.2.2.1, h.2.2.2.2.2.2.2.2.2.2.1, h.2.2.2.2.2.2.2.2.2.2.2.1, h.2.2.2.2.2.2.2.2.2.2.2.2.1, h.2.2.2.2.2.2.2.2.2.2.2.2.2.1, h.2.2.2.2.2.2.2.2.2.2.2.2.2.2.1, h.2.2.2.2.2.2.2.2.2.2.2.2.2.2.2.1, h.2.2.2.2.2.2.2.2.2.2.2.2.2.2.2.2.1, h.2.2.2.2.2.2.2.2.2.2.2.2.2.2.2.2.2.1, h.2.2.2.2.2.2.2.2.2.2.2.2.2.2.2.2.2.2.1, h.2.2.2.2.2.2.2.2.2.2.2.2.2.2.2.2.2.2.2)
def yX.w_lai (h : yX) (v : Nat) : yX := (h.1, h.2.1, h.2.2.1, h.2.2.2.1, h.2.2.2.2.1, h.2.2.2.2.2.1, h.2.2.2.2.2.2.1, h.2.2.2.2.2.2.2.1, h.2.2.2.2.2.2.2.2.1, v, h.2.2.2.2.2.2.2.2.2.2.1, h.2.2.2.2.2.2.2.2.2.2.2.1, h.2.2.2.2.2.2.2.2.2.2.2.2.1, h.2.2.2.2.2.2.2.2.2.2.2.2.2.1, h.2.2.2.2.2.2.2.2.2.2.2.2.2.2.1, h.2.2.2.2.2.2.2.2.2.2.2.2.2.2.2.1, h.2.2.2.2.2.2.2.2.2.2.2.2.2.2.2.2.1, h.2.2.2.2.2.2.2.2.2.2.2.2.2.2.2.2.2.1, h.2.2.2.2.2.2.2.2.2.2.2.2.2.2.2.2.2.2.1, h.2.2.2.2.2.2.2.2.2.2.2.2.2.2.2.2.2.2.2)
def yX.w_lie (h : yX) (v : Nat → Int32) : yX := (h.1, h.2.1, h.2.2.1, h.2.2.2.1, h.2.2.2.2.1, h.2.2.2.2.2.1, h.2.2.2.2.2.2.1, h.2.2.2.2.2.2.2.1, h.2.2.2.2.2.2.2.2.1, h.2.2.2.2.2.2.2.2.2.1, v, h.2.2.2.2.2.2.2.2.2.2.2.1, h.2.2.2.2.2.2.2.2.2.2.2.2.1, h.2.2.2.2.2.2.2.2.2.2.2.2.2.1, h.2.2.2.2.2.2.2.2.2.2.2.2.2.2.1, h.2.2.2.2.2.2.2.2.2.2.2.2.2.2.2.1, h.2.2.2.2.2.2.2.2.2.2.2.2.2.2.2.2.1, h.2.2.2.2.2.2.2.2.2.2.2.2.2.2.2.2.2.1, h.2.2.2.2.2.2.2.2.2.2.2.2.2.2.2.2.2.2.1, h.2.2.2.2.2.2.2.2.2.2.2.2.2.2.2.2.2.2.2)
def yX.w_cnt (h : yX) (v : Nat) : yX := (h.1, h.2.1, h.2.2.1, h.2.2.2.1, h.2.2.2.2.1, h.2.2.2.2.2.1, h.2.2.2.2.2.2.1, h.2.2.2.2.2.2.2.1, h.2.2.2.2.2.2.2.2.1, h.2.2.2.2.2.2.2.2.2.1, h.2.2.2.2.2.2.2.2.2.2.1, v, h.2.2.2.2.2.2.2.2.2.2.2.2.1, h.2.2.2.2.2.2.2.2.2.2.2.2.2.1, h.2.2.2.2.2.2.2.2.2.2.2.2.2.2.1, h.2.2.2.2.2.2.2.2.2.2.2.2.2.2.2.1, h.2.2.2.2.2.2.2.2.2.2.2.2.2.2.2.2.1, h.2.2.2.2.2.2.2.2.2.2.2.2.2.2.2.2.2.1, h.2.2.2.2.2.2.2.2.2.2.2.2.2.2.2.2.2.2.1, h.2.2.2.2.2.2.2.2.2.2.2.2.2.2.2.2.2.2.2)
def yX.w_tim (h : yX) (v : Int32) : yX := (h.1, h.2.1, h.2.2.1, h.2.2.2.1, h.2.2.2.2.1, h.2.2.2.2.2.1, h.2.2.2.2.2.2.1, h.2.2.2.2.2.2.2.1, h.2.2.2.2.2.2.2.2.1, h.2.2.2.2.2.2.2.2.2.1, h.2.2.2.2.2.2.2.2.2.2.1, h.2.2.2.2.2.2.2.2.2.2.2.1, v, h.2.2.2.2.2.2.2.2.2.2.2.2.2.1, h.2.2.2.2.2.2.2.2.2.2.2.2.2.2.1, h.2.2.2.2.2.2.2.2.2.2.2.2.2.2.2.1, h.2.2.2.2.2.2.2.2.2.2.2.2.2.2.2.2.1, h.2.2.2.2.2.2.2.2.2.2.2.2.2.2.2.2.2.1, h.2.2.2.2.2.2.2.2.2.2.2.2.2.2.2.2.2.2.1, h.2.2.2.2.2.2.2.2.2.2.2.2.2.2.2.2.2.2.2)
def yX.w_sof (h : yX) (v : Nat → Nat) : yX := (h.1, h.2.1, h.2.2.1, h.2.2.2.1, h.2.2.2.2.1, h.2.2.2.2.2.1, h.2.2.2.2.2.2.1, h.2.2.2.2.2.2.2.1, h.2.2.2.2.2.2.2.2.1, h.2.2.2.2.2.2.2.2.2.1, h.2.2.2.2.2.2.2.2.2.2.1, h.2.2.2.2.2.2.2.2.2.2.2.1, h.2.2.2.2.2.2.2.2.2.2.2.2.1, v, h.2.2.2.2.2.2.2.2.2.2.2.2.2.2.1, h.2.2.2.2.2.2.2.2.2.2.2.2.2.2.2.1, h.2.2.2.2.2.2.2.2.2.2.2.2.2.2.2.2.1, h.2.2.2.2.2.2.2.2.2.2.2.2.2.2.2.2.2.1, h.2.2.2.2.2.2.2.2.2.2.2.2.2.2.2.2.2.2.1, h.2.2.2.2.2.2.2.2.2.2.2.2.2.2.2.2.2.2.2)
def yX.w_sno (h : yX) (v : Nat → Int32) : yX := (h.1, h.2.1, h.2.2.1, h.2.2.2.1, h.2.2.2.2.1, h.2.2.2.2.2.1, h.2.2.2.2.2.2.1, h.2.2.2.2.2.2.2.1, h.2.2.2.2.2.2.2.2.1, h.2.2.2.2.2.2.2.2.2.1, h.2.2.2.2.2.2.2.2.2.2.1, h.2.2.2.2.2.2.2.2.2.2.2.1, h.2.2.2.2.2.2.2.2.2.2.2.2.1, h.2.2.2.2.2.2.2.2.2.2.2.2.2.1, v, h.2.2.2.2.2.2.2.2.2.2.2.2.2.2.2.1, h.2.2.2.2.2.2.2.2.2.2.2.2.2.2.2.2.1, h.2.2.2.2.2.2.2.2.2.2.2.2.2.2.2.2.2.1, h.2.2.2.2.2.2.2.2.2.2.2.2.2.2.2.2.2.2.1, h.2.2.2.2.2.2.2.2.2.2.2.2.2.2.2.2.2.2.2)
def yX.w_sis (h : yX) (v : Nat → Bool) : yX := (h.1, h.2.1, h.2.2.1, h.2.2.2.1, h.2.2.2.2.1, h.2.2.2.2.2.1, h.2.2.2.2.2.2.1, h.2.2.2.2.2.2.2.1, h.2.2.2.2.2.2.2.2.1, h.2.2.2.2.2.2.2.2.2.1, h.2.2.2.2.2.2.2.2.2.2.1, h.2.2.2.2.2.2.2.2.2.2.2.1, h.2.2.2.2.2.2.2.2.2.2.2.2.1, h.2.2.2.2.2.2.2.2.2.2.2.2.2.1, h.2.2.2.2.2.2.2.2.2.2.2.2.2.2.1, v, h.2.2.2.2.2.2.2.2.2.2.2.2.2.2.2.2.1, h.2.2.2.2.2.2.2.2.2.2.2.2.2.2.2.2.2.1, h.2.2.2.2.2.2.2.2.2.2.2.2.2.2.2.2.2.2.1, h.2.2.2.2.2.2.2.2.2.2.2.2.2.2.2.2.2.2.2)
def yX.w_sto (h : yX) (v : Nat → Int32) : yX := (h.1, h.2.1, h.2.2.1, h.2.2.2.1, h.2.2.2.2.1, h.2.2.2.2.2.1, h.2.2.2.2.2.2.1, h.2.2.2.2.2.2.2.1, h.2.2.2.2.2.2.2.2.1, h.2.2.2.2.2.2.2.2.2.1, h.2.2.2.2.2.2.2.2.2.2.1, h.2.2.2.2.2.2.2.2.2.2.2.1, h.2.2.2.2.2.2.2.2.2.2.2.2.1, h.2.2.2.2.2.2.2.2.2.2.2.2.2.1, h.2.2.2.2.2.2.2.2.2.2.2.2.2.2.1, h.2.2.2.2.2.2.2.2.2.2.2.2.2.2.2.1, v, h.2.2.2.2.2.2.2.2.2.2.2.2.2.2.2.2.2.1, h.2.2.2.2.2.2.2.2.2.2.2.2.2.2.2.2.2.2.1, h.2.2.2.2.2.2.2.2.2.2.2.2.2.2.2.2.2.2.2)
def yX.w_sun (h : yX) (v : Nat → Int32) : yX := (h.1, h.2.1, h.2.2.1, h.2.2.2.1, h.2.2.2.2.1, h.2.2.2.2.2.1, h.2.2.2.2.2.2.1, h.2.2.2.2.2.2.2.1, h.2.2.2.2.2.2.2.2.1, h.2.2.2.2.2.2.2.2.2.1, h.2.2.2.2.2.2.2.2.2.2.1, h.2.2.2.2.2.2.2.2.2.2.2.1, h.2.2.2.2.2.2.2.2.2.2.2.2.1, h.2.2.2.2.2.2.2.2.2.2.2.2.2.1, h.2.2.2.2.2.2.2.2.2.2.2.2.2.2.1, h.2.2.2.2.2.2.2.2.2.2.2.2.2.2.2.1, h.2.2.2.2.2.2.2.2.2.2.2.2.2.2.2.2.1, v, h.2.2.2.2.2.2.2.2.2.2.2.2.2.2.2.2.2.2.1, h.2.2.2.2.2.2.2.2.2.2.2.2.2.2.2.2.2.2.2)
def yX.w_bxf (h : yX) (v : Nat → Bool) : yX := (h.1, h.2.1, h.2.2.1, h.2.2.2.1, h.2.2.2.2.1, h.2.2.2.2.2.1, h.2.2.2.2.2.2.1, h.2.2.2.2.2.2.2.1, h.2.2.2.2.2.2.2.2.1, h.2.2.2.2.2.2.2.2.2.1, h.2.2.2.2.2.2.2.2.2.2.1, h.2.2.2.2.2.2.2.2.2.2.2.1, h.2.2.2.2.2.2.2.2.2.2.2.2.1, h.2.2.2.2.2.2.2.2.2.2.2.2.2.1, h.2.2.2.2.2.2.2.2.2.2.2.2.2.2.1, h.2.2.2.2.2.2.2.2.2.2.2.2.2.2.2.1, h.2.2.2.2.2.2.2.2.2.2.2.2.2.2.2.2.1, h.2.2.2.2.2.2.2.2.2.2.2.2.2.2.2.2.2.1, v, h.2.2.2.2.2.2.2.2.2.2.2.2.2.2.2.2.2.2.2)
def yX.w_bx (h : yX) (v : Nat → Nat → Int32) : yX := (h.1, h.2.1, h.2.2.1, h.2.2.2.1, h.2.2.2.2.1, h.2.2.2.2.2.1, h.2.2.2.2.2.2.1, h.2.2.2.2.2.2.2.1, h.2.2.2.2.2.2.2.2.1, h.2.2.2.2.2.2.2.2.2.1, h.2.2.2.2.2.2.2.2.2.2.1, h.2.2.2.2.2.2.2.2.2.2.2.1, h.2.2.2.2.2.2.2.2.2.2.2.2.1, h.2.2.2.2.2.2.2.2.2.2.2.2.2.1, h.2.2.2.2.2.2.2.2.2.2.2.2.2.2.1, h.2.2.2.2.2.2.2.2.2.2.2.2.2.2.2.1, h.2.2.2.2.2.2.2.2.2.2.2.2.2.2.2.2.1, h.2.2.2.2.2.2.2.2.2.2.2.2.2.2.2.2.2.1, h.2.2.2.2.2.2.2.2.2.2.2.2.2.2.2.2.2.2.1, v)
def yI (X : yX) : Prop := (yOK X.H) ∧ (ySB X.H X.S) ∧ (X.len ≤ 1600) ∧ (∀ j, j < X.len → yin (X.tp j) 0 255) ∧ (X.don + X.und ≤ 40) ∧ (∀ a, a < X.don + X.und → ySB X.H (X.hi a)) ∧ (X.lai ≤ 6) ∧ (X.cnt ≤ 30) ∧ (yin X.tim 0 100000) ∧ (∀ i, i < X.cnt → X.sof i ≤ 6) ∧ (∀ i, i < X.cnt → yin (X.sno i) 0 99) ∧ (∀ i, i < X.cnt → X.sun i = -1 ∨ yin (X.sun i) 0 100000) ∧ (∀ b, b < 3 → X.bxf b = true → ySB X.H (X.bx b))
theorem yI.H {X : yX} (h : yI X) : yOK X.H := h.1
theorem yI.S {X : yX} (h : yI X) : ySB X.H X.S := h.2.1
theorem yI.len {X : yX} (h : yI X) : X.len ≤ 1600 := h.2.2.1
theorem yI.tp {X : yX} (h : yI X) : ∀ j, j < X.len → yin (X.tp j) 0 255 := h.2.2.2.1
theorem yI.dn {X : yX} (h : yI X) : X.don + X.und ≤ 40 := h.2.2.2.2.1
theorem yI.hi {X : yX} (h : yI X) : ∀ a, a < X.don + X.und → ySB X.H (X.hi a) := h.2.2.2.2.2.1
theorem yI.lai {X : yX} (h : yI X) : X.lai ≤ 6 := h.2.2.2.2.2.2.1
theorem yI.cnt {X : yX} (h : yI X) : X.cnt ≤ 30 := h.2.2.2.2.2.2.2.1
theorem yI.tim {X : yX} (h : yI X) : yin X.tim 0 100000 := h.2.2.2.2.2.2.2.2.1
theorem yI.sof {X : yX} (h : yI X) : ∀ i, i < X.cnt → X.sof i ≤ 6 := h.2.2.2.2.2.2.2.2.2.1
theorem yI.sno {X : yX} (h : yI X) : ∀ i, i < X.cnt → yin (X.sno i) 0 99 := h.2.2.2.2.2.2.2.2.2.2.1
theorem yI.sun {X : yX} (h : yI X) : ∀ i, i < X.cnt → X.sun i = -1 ∨ yin (X.sun i) 0 100000 := h.2.2.2.2.2.2.2.2.2.2.2.1
theorem yI.bx {X : yX} (h : yI X) : ∀ b, b < 3 → X.bxf b = true → ySB X.H (X.bx b) := h.2.2.2.2.2.2.2.2.2.2.2.2
theorem yI.mk {X : yX} (H_ : yOK X.H) (S_ : ySB X.H X.S) (len_ : X.len ≤ 1600) (tp_ : ∀ j, j < X.len → yin (X.tp j) 0 255) (dn_ : X.don + X.und ≤ 40) (hi_ : ∀ a, a < X.don + X.und → ySB X.H (X.hi a)) (lai_ : X.lai ≤ 6) (cnt_ : X.cnt ≤ 30) (tim_ : yin X.tim 0 100000) (sof_ : ∀ i, i < X.cnt → X.sof i ≤ 6) (sno_ : ∀ i, i < X.cnt → yin (X.sno i) 0 99) (sun_ : ∀ i, i < X.cnt → X.sun i = -1 ∨ yin (X.sun i) 0 100000) (bx_ : ∀ b, b < 3 → X.bxf b = true → ySB X.H (X.bx b)) : yI X := show (yOK X.H) ∧ (ySB X.H X.S) ∧ (X.len ≤ 1600) ∧ (∀ j, j < X.len → yin (X.tp j) 0 255) ∧ (X.don + X.und ≤ 40) ∧ (∀ a, a < X.don + X.und → ySB X.H (X.hi a)) ∧ (X.lai ≤ 6) ∧ (X.cnt ≤ 30) ∧ (yin X.tim 0 100000) ∧ (∀ i, i < X.cnt → X.sof i ≤ 6) ∧ (∀ i, i < X.cnt → yin (X.sno i) 0 99) ∧ (∀ i, i < X.cnt → X.sun i = -1 ∨ yin (X.sun i) 0 100000) ∧ (∀ b, b < 3 → X.bxf b = true → ySB X.H (X.bx b)) from ⟨H_, S_, len_, tp_, dn_, hi_, lai_, cnt_, tim_, sof_, sno_, sun_, bx_⟩
def ywc : Nat → Int64 := fun w => [441878706, 113301093, 24426643, 113771, 18529921, 546259, 149559, 302, 16052, 498, 1476, 14836, 20186704, 13940883, 23580851, 15192168, 6488991175, 594980].getD w 0
def yC (t : Bool) (X : yX) (IL : zIL) : Prop := (yCH t X.H IL) ∧ (yCS 22 X.S IL) ∧ (IL.1 1 0 = nI X.len) ∧ (∀ j, j < X.len → IL.1 2 j = ysx (X.tp j)) ∧ (IL.1 1 1 = X.fau) ∧ (IL.1 1 2 = X.pla) ∧ (IL.1 26 0 = nI X.don) ∧ (IL.1 26 1 = nI X.und) ∧ (∃ o, o < 40 ∧ IL.1 26 2 = nI o ∧ ∀ a, a < X.don + X.und → yCS (30 + 2 * ((o + a) % 40)) (X.hi a) IL) ∧ (IL.1 0 11 = nI X.lai) ∧ (∀ j, j < X.lai → IL.1 136 j = X.lie j) ∧ (IL.1 128 0 = nI X.cnt) ∧ (IL.1 128 1 = X.tim) ∧ (IL.1 128 2 = if yope X.H then 1 else 0) ∧ (∀ i, i < X.cnt → IL.1 129 i = nI (X.sof i)) ∧ (∀ i, i < X.cnt → IL.1 130 i = X.sno i) ∧ (∀ i, i < X.cnt → IL.1 131 i = if X.sis i then 1 else 0) ∧ (∀ i, i < X.cnt → IL.1 132 i = X.sto i) ∧ (∀ i, i < X.cnt → IL.1 133 i = if X.sun i = -1 then 100001 else X.sun i) ∧ (yope X.H = true → ∀ v n, v ≤ 20 → n ≤ 6 → IL.1 134 (7 * v + n) = ytr X.H (nI v) n) ∧ (∀ b, b < 3 → bt (IL.1 0 9) b = X.bxf b) ∧ (∀ b, b < 3 → X.bxf b = true → yCS (139 + 2 * b) (X.bx b) IL) ∧ (∀ w, w < 18 → IL.2 5 w = ywc w)
theorem yC.H {t : Bool} {X : yX} {IL : zIL} (h : yC t X IL) : yCH t X.H IL := h.1
theorem yC.S {t : Bool} {X : yX} {IL : zIL} (h : yC t X IL) : yCS 22 X.S IL := h.2.1
theorem yC.len {t : Bool} {X : yX} {IL : zIL} (h : yC t X IL) : IL.1 1 0 = nI X.len := h.2.2.1
theorem yC.tape {t : Bool} {X : yX} {IL : zIL} (h : yC t X IL) : ∀ j, j < X.len → IL.1 2 j = ysx (X.tp j) := h.2.2.2.1
theorem yC.fau {t : Bool} {X : yX} {IL : zIL} (h : yC t X IL) : IL.1 1 1 = X.fau := h.2.2.2.2.1
theorem yC.pla {t : Bool} {X : yX} {IL : zIL} (h : yC t X IL) : IL.1 1 2 = X.pla := h.2.2.2.2.2.1
theorem yC.don {t : Bool} {X : yX} {IL : zIL} (h : yC t X IL) : IL.1 26 0 = nI X.don := h.2.2.2.2.2.2.1
theorem yC.und {t : Bool} {X : yX} {IL : zIL} (h : yC t X IL) : IL.1 26 1 = nI X.und := h.2.2.2.2.2.2.2.1
theorem yC.hist {t : Bool} {X : yX} {IL : zIL} (h : yC t X IL) : ∃ o, o < 40 ∧ IL.1 26 2 = nI o ∧ ∀ a, a < X.don + X.und → yCS (30 + 2 * ((o + a) % 40)) (X.hi a) IL := h.2.2.2.2.2.2.2.2.1
theorem yC.lai {t : Bool} {X : yX} {IL : zIL} (h : yC t X IL) : IL.1 0 11 = nI X.lai := h.2.2.2.2.2.2.2.2.2.1
theorem yC.lie {t : Bool} {X : yX} {IL : zIL} (h : yC t X IL) : ∀ j, j < X.lai → IL.1 136 j = X.lie j := h.2.2.2.2.2.2.2.2.2.2.1
theorem yC.cnt {t : Bool} {X : yX} {IL : zIL} (h : yC t X IL) : IL.1 128 0 = nI X.cnt := h.2.2.2.2.2.2.2.2.2.2.2.1
theorem yC.tim {t : Bool} {X : yX} {IL : zIL} (h : yC t X IL) : IL.1 128 1 = X.tim := h.2.2.2.2.2.2.2.2.2.2.2.2.1
theorem yC.ope {t : Bool} {X : yX} {IL : zIL} (h : yC t X IL) : IL.1 128 2 = if yope X.H then 1 else 0 := h.2.2.2.2.2.2.2.2.2.2.2.2.2.1
theorem yC.sof {t : Bool} {X : yX} {IL : zIL} (h : yC t X IL) : ∀ i, i < X.cnt → IL.1 129 i = nI (X.sof i) := h.2.2.2.2.2.2.2.2.2.2.2.2.2.2.1
theorem yC.sno {t : Bool} {X : yX} {IL : zIL} (h : yC t X IL) : ∀ i, i < X.cnt → IL.1 130 i = X.sno i := h.2.2.2.2.2.2.2.2.2.2.2.2.2.2.2.1
theorem yC.sis {t : Bool} {X : yX} {IL : zIL} (h : yC t X IL) : ∀ i, i < X.cnt → IL.1 131 i = if X.sis i then 1 else 0 := h.2.2.2.2.2.2.2.2.2.2.2.2.2.2.2.2.1
theorem yC.sto {t : Bool} {X : yX} {IL : zIL} (h : yC t X IL) : ∀ i, i < X.cnt → IL.1 132 i = X.sto i := h.2.2.2.2.2.2.2.2.2.2.2.2.2.2.2.2.2.1
theorem yC.sun {t : Bool} {X : yX} {IL : zIL} (h : yC t X IL) : ∀ i, i < X.cnt → IL.1 133 i = if X.sun i = -1 then 100001 else X.sun i := h.2.2.2.2.2.2.2.2.2.2.2.2.2.2.2.2.2.2.1
theorem yC.trk {t : Bool} {X : yX} {IL : zIL} (h : yC t X IL) : yope X.H = true → ∀ v n, v ≤ 20 → n ≤ 6 → IL.1 134 (7 * v + n) = ytr X.H (nI v) n := h.2.2.2.2.2.2.2.2.2.2.2.2.2.2.2.2.2.2.2.1
theorem yC.bxm {t : Bool} {X : yX} {IL : zIL} (h : yC t X IL) : ∀ b, b < 3 → bt (IL.1 0 9) b = X.bxf b := h.2.2.2.2.2.2.2.2.2.2.2.2.2.2.2.2.2.2.2.2.1
theorem yC.bx {t : Bool} {X : yX} {IL : zIL} (h : yC t X IL) : ∀ b, b < 3 → X.bxf b = true → yCS (139 + 2 * b) (X.bx b) IL := h.2.2.2.2.2.2.2.2.2.2.2.2.2.2.2.2.2.2.2.2.2.1
theorem yC.cod {t : Bool} {X : yX} {IL : zIL} (h : yC t X IL) : ∀ w, w < 18 → IL.2 5 w = ywc w := h.2.2.2.2.2.2.2.2.2.2.2.2.2.2.2.2.2.2.2.2.2.2
theorem yC.mk {t : Bool} {X : yX} {IL : zIL} (H_ : yCH t X.H IL) (S_ : yCS 22 X.S IL) (len_ : IL.1 1 0 = nI X.len) (tape_ : ∀ j, j < X.len → IL.1 2 j = ysx (X.tp j)) (fau_ : IL.1 1 1 = X.fau) (pla_ : IL.1 1 2 = X.pla) (don_ : IL.1 26 0 = nI X.don) (und_ : IL.1 26 1 = nI X.und) (hist_ : ∃ o, o < 40 ∧ IL.1 26 2 = nI o ∧ ∀ a, a < X.don + X.und → yCS (30 + 2 * ((o + a) % 40)) (X.hi a) IL) (lai_ : IL.1 0 11 = nI X.lai) (lie_ : ∀ j, j < X.lai → IL.1 136 j = X.lie j) (cnt_ : IL.1 128 0 = nI X.cnt) (tim_ : IL.1 128 1 = X.tim) (ope_ : IL.1 128 2 = if yope X.H then 1 else 0) (sof_ : ∀ i, i < X.cnt → IL.1 129 i = nI (X.sof i)) (sno_ : ∀ i, i < X.cnt → IL.1 130 i = X.sno i) (sis_ : ∀ i, i < X.cnt → IL.1 131 i = if X.sis i then 1 else 0) (sto_ : ∀ i, i < X.cnt → IL.1 132 i = X.sto i) (sun_ : ∀ i, i < X.cnt → IL.1 133 i = if X.sun i = -1 then 100001 else X.sun i) (trk_ : yope X.H = true → ∀ v n, v ≤ 20 → n ≤ 6 → IL.1 134 (7 * v + n) = ytr X.H (nI v) n) (bxm_ : ∀ b, b < 3 → bt (IL.1 0 9) b = X.bxf b) (bx_ : ∀ b, b < 3 → X.bxf b = true → yCS (139 + 2 * b) (X.bx b) IL) (cod_ : ∀ w, w < 18 → IL.2 5 w = ywc w) : yC t X IL := show (yCH t X.H IL) ∧ (yCS 22 X.S IL) ∧ (IL.1 1 0 = nI X.len) ∧ (∀ j, j < X.len → IL.1 2 j = ysx (X.tp j)) ∧ (IL.1 1 1 = X.fau) ∧ (IL.1 1 2 = X.pla) ∧ (IL.1 26 0 = nI X.don) ∧ (IL.1 26 1 = nI X.und) ∧ (∃ o, o < 40 ∧ IL.1 26 2 = nI o ∧ ∀ a, a < X.don + X.und → yCS (30 + 2 * ((o + a) % 40)) (X.hi a) IL) ∧ (IL.1 0 11 = nI X.lai) ∧ (∀ j, j < X.lai → IL.1 136 j = X.lie j) ∧ (IL.1 128 0 = nI X.cnt) ∧ (IL.1 128 1 = X.tim) ∧ (IL.1 128 2 = if yope X.H then 1 else 0) ∧ (∀ i, i < X.cnt → IL.1 129 i = nI (X.sof i)) ∧ (∀ i, i < X.cnt → IL.1 130 i = X.sno i) ∧ (∀ i, i < X.cnt → IL.1 131 i = if X.sis i then 1 else 0) ∧ (∀ i, i < X.cnt → IL.1 132 i = X.sto i) ∧ (∀ i, i < X.cnt → IL.1 133 i = if X.sun i = -1 then 100001 else X.sun i) ∧ (yope X.H = true → ∀ v n, v ≤ 20 → n ≤ 6 → IL.1 134 (7 * v + n) = ytr X.H (nI v) n) ∧ (∀ b, b < 3 → bt (IL.1 0 9) b = X.bxf b) ∧ (∀ b, b < 3 → X.bxf b = true → yCS (139 + 2 * b) (X.bx b) IL) ∧ (∀ w, w < 18 → IL.2 5 w = ywc w) from ⟨H_, S_, len_, tape_, fau_, pla_, don_, und_, hist_, lai_, lie_, cnt_, tim_, ope_, sof_, sno_, sis_, sto_, sun_, trk_, bxm_, bx_, cod_⟩
def yM (X : yX) (IL : zIL) : Prop := (yMH X.H IL) ∧ (yMS 161 X.S IL) ∧ (IL.1 145 27 = -1) ∧ (IL.1 145 1 = nI X.len) ∧ (∀ j, j < X.len → IL.1 146 j = X.tp j) ∧ (IL.1 145 2 = X.fau) ∧ (IL.1 145 3 = X.pla) ∧ (IL.1 145 57 = nI X.don) ∧ (IL.1 145 58 = nI X.und) ∧ (∀ a j, a < X.don + X.und → j < 11 → IL.1 163 (11 * a + j) = X.hi a j) ∧ (IL.1 145 62 = nI X.lai) ∧ (∀ j, j < X.lai → IL.1 165 j = X.lie j) ∧ (IL.1 145 71 = nI X.cnt) ∧ (IL.1 145 72 = X.tim) ∧ (∀ i, i < X.cnt → IL.1 169 i = nI (X.sof i)) ∧ (∀ i, i < X.cnt → IL.1 170 i = X.sno i) ∧ (∀ i, i < X.cnt → IL.1 171 i = X.sto i) ∧ (∀ i, i < X.cnt → IL.1 172 i = X.sun i) ∧ (∀ i, i < X.cnt → IL.1 173 i = if X.sis i then 1 else 0) ∧ (∀ b, b < 3 → IL.1 177 b = if X.bxf b then 1 else 0) ∧ (∀ b j, b < 3 → X.bxf b = true → j < 11 → IL.1 178 (11 * b + j) = X.bx b j)
theorem yM.H {X : yX} {IL : zIL} (h : yM X IL) : yMH X.H IL := h.1
theorem yM.S {X : yX} {IL : zIL} (h : yM X IL) : yMS 161 X.S IL := h.2.1
theorem yM.m27 {X : yX} {IL : zIL} (h : yM X IL) : IL.1 145 27 = -1 := h.2.2.1
theorem yM.len {X : yX} {IL : zIL} (h : yM X IL) : IL.1 145 1 = nI X.len := h.2.2.2.1
theorem yM.tape {X : yX} {IL : zIL} (h : yM X IL) : ∀ j, j < X.len → IL.1 146 j = X.tp j := h.2.2.2.2.1
theorem yM.fau {X : yX} {IL : zIL} (h : yM X IL) : IL.1 145 2 = X.fau := h.2.2.2.2.2.1
theorem yM.pla {X : yX} {IL : zIL} (h : yM X IL) : IL.1 145 3 = X.pla := h.2.2.2.2.2.2.1
theorem yM.don {X : yX} {IL : zIL} (h : yM X IL) : IL.1 145 57 = nI X.don := h.2.2.2.2.2.2.2.1
theorem yM.und {X : yX} {IL : zIL} (h : yM X IL) : IL.1 145 58 = nI X.und := h.2.2.2.2.2.2.2.2.1
theorem yM.hist {X : yX} {IL : zIL} (h : yM X IL) : ∀ a j, a < X.don + X.und → j < 11 → IL.1 163 (11 * a + j) = X.hi a j := h.2.2.2.2.2.2.2.2.2.1
theorem yM.lai {X : yX} {IL : zIL} (h : yM X IL) : IL.1 145 62 = nI X.lai := h.2.2.2.2.2.2.2.2.2.2.1
theorem yM.lie {X : yX} {IL : zIL} (h : yM X IL) : ∀ j, j < X.lai → IL.1 165 j = X.lie j := h.2.2.2.2.2.2.2.2.2.2.2.1
theorem yM.cnt {X : yX} {IL : zIL} (h : yM X IL) : IL.1 145 71 = nI X.cnt := h.2.2.2.2.2.2.2.2.2.2.2.2.1
theorem yM.tim {X : yX} {IL : zIL} (h : yM X IL) : IL.1 145 72 = X.tim := h.2.2.2.2.2.2.2.2.2.2.2.2.2.1
theorem yM.sof {X : yX} {IL : zIL} (h : yM X IL) : ∀ i, i < X.cnt → IL.1 169 i = nI (X.sof i) := h.2.2.2.2.2.2.2.2.2.2.2.2.2.2.1
theorem yM.sno {X : yX} {IL : zIL} (h : yM X IL) : ∀ i, i < X.cnt → IL.1 170 i = X.sno i := h.2.2.2.2.2.2.2.2.2.2.2.2.2.2.2.1
theorem yM.sto {X : yX} {IL : zIL} (h : yM X IL) : ∀ i, i < X.cnt → IL.1 171 i = X.sto i := h.2.2.2.2.2.2.2.2.2.2.2.2.2.2.2.2.1
theorem yM.sun {X : yX} {IL : zIL} (h : yM X IL) : ∀ i, i < X.cnt → IL.1 172 i = X.sun i := h.2.2.2.2.2.2.2.2.2.2.2.2.2.2.2.2.2.1
theorem yM.sis {X : yX} {IL : zIL} (h : yM X IL) : ∀ i, i < X.cnt → IL.1 173 i = if X.sis i then 1 else 0 := h.2.2.2.2.2.2.2.2.2.2.2.2.2.2.2.2.2.2.1
theorem yM.bxm {X : yX} {IL : zIL} (h : yM X IL) : ∀ b, b < 3 → IL.1 177 b = if X.bxf b then 1 else 0 := h.2.2.2.2.2.2.2.2.2.2.2.2.2.2.2.2.2.2.2.1
theorem yM.bx {X : yX} {IL : zIL} (h : yM X IL) : ∀ b j, b < 3 → X.bxf b = true → j < 11 → IL.1 178 (11 * b + j) = X.bx b j := h.2.2.2.2.2.2.2.2.2.2.2.2.2.2.2.2.2.2.2.2
theorem yM.mk {X : yX} {IL : zIL} (H_ : yMH X.H IL) (S_ : yMS 161 X.S IL) (m27_ : IL.1 145 27 = -1) (len_ : IL.1 145 1 = nI X.len) (tape_ : ∀ j, j < X.len → IL.1 146 j = X.tp j) (fau_ : IL.1 145 2 = X.fau) (pla_ : IL.1 145 3 = X.pla) (don_ : IL.1 145 57 = nI X.don) (und_ : IL.1 145 58 = nI X.und) (hist_ : ∀ a j, a < X.don + X.und → j < 11 → IL.1 163 (11 * a + j) = X.hi a j) (lai_ : IL.1 145 62 = nI X.lai) (lie_ : ∀ j, j < X.lai → IL.1 165 j = X.lie j) (cnt_ : IL.1 145 71 = nI X.cnt) (tim_ : IL.1 145 72 = X.tim) (sof_ : ∀ i, i < X.cnt → IL.1 169 i = nI (X.sof i)) (sno_ : ∀ i, i < X.cnt → IL.1 170 i = X.sno i) (sto_ : ∀ i, i < X.cnt → IL.1 171 i = X.sto i) (sun_ : ∀ i, i < X.cnt → IL.1 172 i = X.sun i) (sis_ : ∀ i, i < X.cnt → IL.1 173 i = if X.sis i then 1 else 0) (bxm_ : ∀ b, b < 3 → IL.1 177 b = if X.bxf b then 1 else 0) (bx_ : ∀ b j, b < 3 → X.bxf b = true → j < 11 → IL.1 178 (11 * b + j) = X.bx b j) : yM X IL := show (yMH X.H IL) ∧ (yMS 161 X.S IL) ∧ (IL.1 145 27 = -1) ∧ (IL.1 145 1 = nI X.len) ∧ (∀ j, j < X.len → IL.1 146 j = X.tp j) ∧ (IL.1 145 2 = X.fau) ∧ (IL.1 145 3 = X.pla) ∧ (IL.1 145 57 = nI X.don) ∧ (IL.1 145 58 = nI X.und) ∧ (∀ a j, a < X.don + X.und → j < 11 → IL.1 163 (11 * a + j) = X.hi a j) ∧ (IL.1 145 62 = nI X.lai) ∧ (∀ j, j < X.lai → IL.1 165 j = X.lie j) ∧ (IL.1 145 71 = nI X.cnt) ∧ (IL.1 145 72 = X.tim) ∧ (∀ i, i < X.cnt → IL.1 169 i = nI (X.sof i)) ∧ (∀ i, i < X.cnt → IL.1 170 i = X.sno i) ∧ (∀ i, i < X.cnt → IL.1 171 i = X.sto i) ∧ (∀ i, i < X.cnt → IL.1 172 i = X.sun i) ∧ (∀ i, i < X.cnt → IL.1 173 i = if X.sis i then 1 else 0) ∧ (∀ b, b < 3 → IL.1 177 b = if X.bxf b then 1 else 0) ∧ (∀ b j, b < 3 → X.bxf b = true → j < 11 → IL.1 178 (11 * b + j) = X.bx b j) from ⟨H_, S_, m27_, len_, tape_, fau_, pla_, don_, und_, hist_, lai_, lie_, cnt_, tim_, sof_, sno_, sto_, sun_, sis_, bxm_, bx_⟩
/-- cells of the class that hold nothing over a call -/
def ysc (c : Nat) : Bool := c == 11 || c == 13 || c == 19 || c == 21 || c == 24 || c == 25 || c == 28 || c == 29 || (decide (110 ≤ c) && decide (c ≤ 127)) || c == 137 || c == 138
/-- what a class's question leaves -/
def yqc (A B : zIL) : Prop := (∀ c, ysc c = false → B.1 c = A.1 c) ∧ B.2 = A.2
theorem yqc_rf {A : zIL} : yqc A A := ⟨fun _ _ => rfl, rfl⟩
theorem yqc_tr {A B C : zIL} (h1 : yqc A B) (h2 : yqc B C) : yqc A C := ⟨fun c h => (h2.1 c h).trans (h1.1 c h), h2.2.trans h1.2⟩
theorem yqc_zf {cs : List Nat} {A B : zIL} (h : zfr cs A B) (hc : ∀ c, c ∈ cs → ysc c = true) : yqc A B := ⟨fun c z => h.1 c (fun q => by rw [hc c q] at z; cases z), h.2⟩
theorem yqc_wi {A : zIL} {c j : Nat} {v : Int32} (h : ysc c = true) : yqc A (zwi A c j v) := ⟨fun c' z => zwi_ne (fun e => by rw [e, h] at z; cases z), rfl⟩
theorem yqc_hi {A B : zIL} (h : yqc A B) {c : Nat} (hc : 145 ≤ c) : B.1 c = A.1 c := h.1 c (by
  unfold ysc
  simp only [Bool.or_eq_false_iff, Bool.and_eq_false_iff, beq_eq_false_iff_ne, decide_eq_false_iff_not]
  omega)
theorem yCS.qc {A B : zIL} {s : Nat} {S : Nat → Int32} (h : yCS s S A) (f : yqc A B) (h0 : ysc s = false) (h1 : ysc (s + 1) = false) : yCS s S B := h.fr (f.1 s h0) (f.1 (s + 1) h1)
theorem yCH.qc {A B : zIL} {u : Bool} {H : yH} (h : yCH u H A) (f : yqc A B) : yCH u H B := h.fr (fun i h8 h5 h7 => f.1 _ (by
  have := zH_le u
  have := zH_ge u
  cases u
  · have : zH false = 6 := rfl
    unfold ysc
    simp only [Bool.or_eq_false_iff, Bool.and_eq_false_iff, beq_eq_false_iff_ne, decide_eq_false_iff_not]
    omega
  · have : zH true = 14 := rfl
    unfold ysc
    simp only [Bool.or_eq_false_iff, Bool.and_eq_false_iff, beq_eq_false_iff_ne, decide_eq_false_iff_not]
    omega))
theorem ysc_s : ∀ a, a < 40 → ysc (30 + 2 * a) = false ∧ ysc (30 + 2 * a + 1) = false := by decide
theorem ysc_b : ∀ b, b < 3 → ysc (139 + 2 * b) = false ∧ ysc (139 + 2 * b + 1) = false := by decide
theorem yC.qc {t : Bool} {X : yX} {A B : zIL} (h : yC t X A) (f : ∀ c, c < 145 → ysc c = false → B.1 c = A.1 c) (f2 : B.2 5 = A.2 5) : yC t X B := by
  have g : ∀ c, c < 145 → ysc c = false → ∀ j, B.1 c j = A.1 c j := fun c h1 h2 j => by rw [f c h1 h2]
  refine yC.mk ?_ ?_ ?_ ?_ ?_ ?_ ?_ ?_ ?_ ?_ ?_ ?_ ?_ ?_ ?_ ?_ ?_ ?_ ?_ ?_ ?_ ?_ ?_
  · refine h.H.fr (fun i h8 h5 h7 => f _ (by have := zH_le t; omega) ?_)
    cases t
    · have : zH false = 6 := rfl
      unfold ysc
      simp only [Bool.or_eq_false_iff, Bool.and_eq_false_iff, beq_eq_false_iff_ne, decide_eq_false_iff_not]
      omega
    · have : zH true = 14 := rfl
      unfold ysc
      simp only [Bool.or_eq_false_iff, Bool.and_eq_false_iff, beq_eq_false_iff_ne, decide_eq_false_iff_not]
      omega
  · exact h.S.fr (f 22 (by decide) rfl) (f 23 (by decide) rfl)
  · rw [g 1 (by decide) rfl]; exact h.len
  · intro j hj; rw [g 2 (by decide) rfl]; exact h.tape j hj
  · rw [g 1 (by decide) rfl]; exact h.fau
  · rw [g 1 (by decide) rfl]; exact h.pla
  · rw [g 26 (by decide) rfl]; exact h.don
  · rw [g 26 (by decide) rfl]; exact h.und
  · obtain ⟨o, h1, h2, h3⟩ := h.hist
    refine ⟨o, h1, by rw [g 26 (by decide) rfl]; exact h2, fun a ha => ?_⟩
    have hm : (o + a) % 40 < 40 := Nat.mod_lt _ (by decide)
    have q := ysc_s _ hm
    exact (h3 a ha).fr (f _ (by omega) q.1) (f _ (by omega) q.2)
  · rw [g 0 (by decide) rfl]; exact h.lai
  · intro j hj; rw [g 136 (by decide) rfl]; exact h.lie j hj
  · rw [g 128 (by decide) rfl]; exact h.cnt
  · rw [g 128 (by decide) rfl]; exact h.tim
  · rw [g 128 (by decide) rfl]; exact h.ope
  · intro j hj; rw [g 129 (by decide) rfl]; exact h.sof j hj
  · intro j hj; rw [g 130 (by decide) rfl]; exact h.sno j hj
  · intro j hj; rw [g 131 (by decide) rfl]; exact h.sis j hj
  · intro j hj; rw [g 132 (by decide) rfl]; exact h.sto j hj
  · intro j hj; rw [g 133 (by decide) rfl]; exact h.sun j hj
  · intro a v n hv hn; rw [g 134 (by decide) rfl]; exact h.trk a v n hv hn
  · intro b hb; rw [g 0 (by decide) rfl]; exact h.bxm b hb
  · intro b hb hx
    have q := ysc_b b hb
    exact (h.bx b hb hx).fr (f _ (by omega) q.1) (f _ (by omega) q.2)
  · intro w hw; rw [f2]; exact h.cod w hw
/-- slots of the model that hold nothing over a call -/
def yms (c j : Nat) : Bool := c == 153 || c == 154 || c == 162 || c == 164 || c == 166 || c == 167 || c == 168 || c == 174 || c == 175 || c == 176 || (c == 145 && (j == 54 || j == 55 || j == 63 || j == 27))
theorem ypw_ms : ∀ c j, yms c j = false → ypw c j = false := by
  intro c j h
  unfold yms at h
  unfold ypw
  simp only [Bool.or_eq_false_iff, Bool.and_eq_false_iff, beq_eq_false_iff_ne] at h ⊢
  omega
theorem yfm_pw {A B : zIL} (h : yfm ypw A B) : yfm yms A B := yfm_le h ypw_ms
theorem yms_lo {c : Nat} (h : c < 145) (j : Nat) : yms c j = false := by
  unfold yms
  simp only [Bool.or_eq_false_iff, Bool.and_eq_false_iff, beq_eq_false_iff_ne]
  omega
theorem yMH.ms {H : yH} {A B : zIL} (h : yMH H A) (f : yfm yms A B) : yMH H B := h.fr (fun c j z => f.1 c j (by
  unfold yMHs at z
  unfold yms
  simp only [Bool.or_eq_true, Bool.and_eq_true, beq_iff_eq] at z
  simp only [Bool.or_eq_false_iff, Bool.and_eq_false_iff, beq_eq_false_iff_ne]
  omega))
theorem yM.ms {X : yX} {A B : zIL} (h : yM X A) (f : ∀ c j, 145 ≤ c → yms c j = false → B.1 c j = A.1 c j) (f27 : B.1 145 27 = -1) : yM X B := by
  refine yM.mk ?_ ?_ f27 ?_ ?_ ?_ ?_ ?_ ?_ ?_ ?_ ?_ ?_ ?_ ?_ ?_ ?_ ?_ ?_ ?_ ?_
  · refine h.H.fr (fun c j z => f c j ?_ ?_)
    · unfold yMHs at z
      simp only [Bool.or_eq_true, Bool.and_eq_true, beq_iff_eq] at z
      omega
    · unfold yMHs at z
      unfold yms
      simp only [Bool.or_eq_true, Bool.and_eq_true, beq_iff_eq] at z
      simp only [Bool.or_eq_false_iff, Bool.and_eq_false_iff, beq_eq_false_iff_ne]
      omega
  · intro j hj; rw [f 161 j (by decide) rfl]; exact h.S j hj
  · rw [f 145 1 (by decide) rfl]; exact h.len
  · intro j hj; rw [f 146 j (by decide) rfl]; exact h.tape j hj
  · rw [f 145 2 (by decide) rfl]; exact h.fau
  · rw [f 145 3 (by decide) rfl]; exact h.pla
  · rw [f 145 57 (by decide) rfl]; exact h.don
  · rw [f 145 58 (by decide) rfl]; exact h.und
  · intro a j ha hj; rw [f 163 _ (by decide) rfl]; exact h.hist a j ha hj
  · rw [f 145 62 (by decide) rfl]; exact h.lai
  · intro j hj; rw [f 165 j (by decide) rfl]; exact h.lie j hj
  · rw [f 145 71 (by decide) rfl]; exact h.cnt
  · rw [f 145 72 (by decide) rfl]; exact h.tim
  · intro j hj; rw [f 169 j (by decide) rfl]; exact h.sof j hj
  · intro j hj; rw [f 170 j (by decide) rfl]; exact h.sno j hj
  · intro j hj; rw [f 171 j (by decide) rfl]; exact h.sto j hj
  · intro j hj; rw [f 172 j (by decide) rfl]; exact h.sun j hj
  · intro j hj; rw [f 173 j (by decide) rfl]; exact h.sis j hj
  · intro b hb; rw [f 177 b (by decide) rfl]; exact h.bxm b hb
  · intro b j hb hx hj; rw [f 178 _ (by decide) rfl]; exact h.bx b j hb hx hj
