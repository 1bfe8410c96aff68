/-! read, oil, change, image, back: the class's side -/
def yub (H : yH) (S : Nat → Int32) (x : Int32) : Bool := !decide (x < 0) && (decide (x < nI H.k) && !bt (S 8) x.toNatClampNeg)
theorem yub_n {H : yH} {S : Nat → Int32} {x : Int32} (h : ∀ v, yun H S x v = -1) : yub H S x = false := by
  have h0 := h 0
  unfold yun at h0
  unfold yub
  by_cases a : x < 0
  · rw [decide_eq_true a]; rfl
  · rw [if_neg a] at h0
    by_cases b : x < nI H.k
    · rw [if_pos b] at h0
      cases e : bt (S 8) x.toNatClampNeg
      · rw [e] at h0
        exact absurd h0 (by decide)
      · rw [decide_eq_false a, decide_eq_true b]; rfl
    · rw [decide_eq_false b, Bool.false_and, Bool.and_false]
theorem yub_y {H : yH} {S : Nat → Int32} {c : Nat} (hk : H.k ≤ 6) (hc : c < H.k) (hb : bt (S 8) c = false) : yub H S (nI c) = true := by
  unfold yub
  rw [decide_eq_false (nI_pos (by omega)), decide_eq_true (nI_lt hc (by omega)), ycl (by omega), hb]
  rfl
def yread (X : yX) (c : Nat) (fa : Int32) : yX := yW X (ypun X.H (ysit X.H (-1) (X.H.sh c) fa c X.S)) (ydk X) 0 (yhk X)
def x_read (X : yX) (x fa : Int32) : yX := if yub X.H X.S x then yread X x.toNatClampNeg fa else X
def yob (X : yX) (x : Int32) : Bool := !decide (x < 0) && (decide (x < nI X.H.n) && !decide (X.S x.toNatClampNeg = 0))
def yoil (X : yX) (m : Nat) : yX := yW X (yS' X.S m (X.S m - 1)) (ydk X) 0 (yhk X)
def x_oil (X : yX) (x : Int32) : yX := if yob X x then yoil X x.toNatClampNeg else X
def r_oil (X : yX) (x : Int32) : Int32 := if yob X x then X.S x.toNatClampNeg - 1 else -1
def ychange (X : yX) : yX := yW X (ychg X.H X.S) (ydk X) 0 (yhk X)
def x_change (X : yX) : yX := if X.H.n = 0 then X else ychange X
def r_change (X : yX) : Int32 := if X.H.n = 0 then -1 else ychg X.H X.S 7
def ybb (x : Int32) : Bool := !decide (x < 0) && decide (x < 3)
def yimg (X : yX) (b : Nat) : yX := yX.mk X.H X.S X.len X.tp X.fau X.pla X.don X.und X.hi X.lai X.lie X.cnt X.tim X.sof X.sno X.sis X.sto X.sun (fun j => decide (j = b) || X.bxf j) (fun j => if j = b then X.S else X.bx j)
def x_image (X : yX) (x : Int32) : yX := if ybb x then yimg X x.toNatClampNeg else X
def r_image (X : yX) (x : Int32) : Int32 := if ybb x then yre X.S else -1
def yback (X : yX) (b : Nat) : yX := yW X (X.bx b) 0 0 X.hi
def x_back (X : yX) (x : Int32) : yX := if ybb x && X.bxf x.toNatClampNeg then yback X x.toNatClampNeg else X
def r_back (X : yX) (x : Int32) : Int32 := if ybb x && X.bxf x.toNatClampNeg then yre (X.bx x.toNatClampNeg) else -1
theorem yW_H {X : yX} {a : Nat → Int32} {b c : Nat} {e : Nat → Nat → Int32} : (yW X a b c e).H = X.H := rfl
theorem yact_H {X : yX} : (yact X).H = X.H := yW_H
theorem yact_S {X : yX} : (yact X).S = X.S := rfl
theorem yW_W {X : yX} {a a' : Nat → Int32} {b c : Nat} {e : Nat → Nat → Int32} : yW (yW X a b c e) a' (yW X a b c e).don (yW X a b c e).und (yW X a b c e).hi = yW X a' b c e := rfl
theorem yW_S {X : yX} {a : Nat → Int32} {b c : Nat} {e : Nat → Nat → Int32} : (yW X a b c e).S = a := rfl
theorem yC.wS2 {t : Bool} {A B : zIL} {X : yX} {a a' : Nat → Int32} {b c : Nat} {e : Nat → Nat → Int32} (h : yC t (yW X a b c e) A) (f : zfr [22, 22 + 1, zH t + 5, zH t + 7] A B) (hS : yCS 22 a' B) : yC t (yW X a' b c e) B := by
  have q := h.wS f hS
  rw [yW_W] at q
  exact q
theorem yC.wH {t : Bool} {A : zIL} {X : yX} {a : Nat → Int32} {b c : Nat} {e : Nat → Nat → Int32} (h : yC t (yW X a b c e) A) : yCH t X.H A := by
  have q := h.H
  rw [yW_H] at q
  exact q
theorem yC.wSS {t : Bool} {A : zIL} {X : yX} {a : Nat → Int32} {b c : Nat} {e : Nat → Nat → Int32} (h : yC t (yW X a b c e) A) : yCS 22 a A := by
  have q := h.S
  rw [yW_S] at q
  exact q
theorem yI_W {X : yX} (h : yI X) {S' : Nat → Int32} {don' und' : Nat} {hi' : Nat → Nat → Int32} (hS : ySB X.H S') (hd : don' + und' ≤ 40) (hh : ∀ a, a < don' + und' → ySB X.H (hi' a)) : yI (yW X S' don' und' hi') := yI.mk h.H hS h.len h.tp hd hh h.lai h.cnt h.tim h.sof h.sno h.sun h.bx
theorem yI_act {X : yX} (h : yI X) {S' : Nat → Int32} (hS : ySB X.H S') : yI (yW X S' (ydk X) 0 (yhk X)) := by
  have dn := h.dn
  have hd : ydk X ≤ 40 := by unfold ydk; split <;> omega
  refine yI_W h hS (by omega) (fun a ha => ?_)
  unfold ydk at ha
  unfold yhk
  split
  · rw [if_pos ‹_›] at ha
    split
    · exact h.S
    · exact h.hi a (by omega)
  · rw [if_neg ‹_›] at ha
    split
    · exact h.S
    · exact h.hi (a + 1) (by omega)
