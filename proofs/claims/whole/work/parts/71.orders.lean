/-! the orders of clauses: as a tree, and one after the other -/
def yEv (H : yH) (fa : Int32) : List Nat → (Nat → Int32) → Nat
  | [], _ => 0
  | c :: cs, S => (ypas H (-1) (H.sh c) fa S).toNat + yEv H fa cs (ysit H (-1) (H.sh c) fa c S)
def yG (H : yH) (fa : Int32) (k : Nat) : Nat → Nat → (Nat → Int32) → Nat → List Nat → Nat × List Nat → Nat × List Nat
  | 0, _, _, ps, pre, p => if p.1 ≤ ps then (ps + 1, pre) else p
  | l + 1, u, S, ps, pre, p => yfo (fun c q => if u.testBit c then q else yG H fa k l (u ||| 2 ^ c) (ysit H (-1) (H.sh c) fa c S) (ps + (ypas H (-1) (H.sh c) fa S).toNat) (pre ++ [c]) q) k 0 p
def yLv (k : Nat) : Nat → Nat → List (List Nat)
  | 0, _ => [[]]
  | l + 1, u => (List.range k).flatMap (fun c => if u.testBit c then [] else (yLv k l (u ||| 2 ^ c)).map (fun s => c :: s))
def yst1 (H : yH) (fa : Int32) (S : Nat → Int32) (ps : Nat) (pre : List Nat) (q : Nat × List Nat) (s : List Nat) : Nat × List Nat := if q.1 ≤ ps + yEv H fa s S then (ps + yEv H fa s S + 1, pre ++ s) else q
theorem yfo_range {α : Type} {f : Nat → α → α} : ∀ (k i : Nat) (a : α), yfo f k i a = (List.range' i k).foldl (fun a c => f c a) a
  | 0, _, _ => rfl
  | k + 1, i, a => by
    rw [yfo, yfo_range k (i + 1), List.range'_succ, List.foldl_cons]
theorem yG_fold (H : yH) (fa : Int32) (k : Nat) : ∀ (l u : Nat) (S : Nat → Int32) (ps : Nat) (pre : List Nat) (p : Nat × List Nat), yG H fa k l u S ps pre p = (yLv k l u).foldl (yst1 H fa S ps pre) p
  | 0, u, S, ps, pre, p => by
    show (if p.1 ≤ ps then (ps + 1, pre) else p) = (if p.1 ≤ ps + 0 then (ps + 0 + 1, pre ++ []) else p)
    rw [List.append_nil]
    rfl
  | l + 1, u, S, ps, pre, p => by
    rw [yG, yfo_range, yLv, List.range_eq_range', List.foldl_flatMap]
    congr 1
    funext q c
    by_cases h : u.testBit c = true
    · rw [if_pos h, if_pos h]
      rfl
    · rw [if_neg h, if_neg h, List.foldl_map, yG_fold H fa k l]
      congr 1
      funext q s
      unfold yst1
      have e : ps + (ypas H (-1) (H.sh c) fa S).toNat + yEv H fa s (ysit H (-1) (H.sh c) fa c S) = ps + yEv H fa (c :: s) S := by
        rw [yEv, Nat.add_assoc]
      rw [e, List.append_assoc]
      rfl
theorem yG_prune (H : yH) (fa : Int32) (k : Nat) : ∀ (l u : Nat) (S : Nat → Int32) (ps : Nat) (pre : List Nat) (p : Nat × List Nat), ps + l < p.1 → yG H fa k l u S ps pre p = p
  | 0, u, S, ps, pre, p, h => by
    rw [yG, if_neg (by omega)]
  | l + 1, u, S, ps, pre, p, h => by
    have key : ∀ (m i : Nat), yfo (fun c q => if u.testBit c then q else yG H fa k l (u ||| 2 ^ c) (ysit H (-1) (H.sh c) fa c S) (ps + (ypas H (-1) (H.sh c) fa S).toNat) (pre ++ [c]) q) m i p = p := by
      intro m
      induction m with
      | zero => intro i; rfl
      | succ m ih =>
        intro i
        unfold yfo
        have e : (if u.testBit i then p else yG H fa k l (u ||| 2 ^ i) (ysit H (-1) (H.sh i) fa i S) (ps + (ypas H (-1) (H.sh i) fa S).toNat) (pre ++ [i]) p) = p := by
          split
          · rfl
          · refine yG_prune H fa k l _ _ _ _ p ?_
            have := Bool.toNat_le (ypas H (-1) (H.sh i) fa S)
            omega
        rw [e]
        exact ih (i + 1)
    rw [yG]
    exact key k 0
def ynk (f : Nat → Nat) : Nat → Option Nat
  | 0 => none
  | k + 1 => if f (k + 1) < f k then ynk f k else some k
def ynj (f : Nat → Nat) (p : Nat) : Nat → Nat
  | 0 => 0
  | j + 1 => if f (j + 1) < p then ynj f p j else j + 1
def yex (f : Nat → Nat) (a b j : Nat) : Nat := if j = b then f a else if j = a then f b else f j
def yrev : Nat → (Nat → Nat) → Nat → Nat → (Nat → Nat)
  | 0, f, _, _ => f
  | n + 1, f, lo, hi => if lo < hi then yrev n (yex f lo hi) (lo + 1) (hi - 1) else f
def ynx (r : Nat) (f : Nat → Nat) : Option (Nat → Nat) := match ynk f (r - 1) with
  | none => none
  | some k => some (yrev 6 (yex f k (ynj f (f k) (r - 1))) (k + 1) (r - 1))
def ynb (r : Nat) (s s' : List Nat) : Bool := match ynx r (fun j => s.getD j 0) with
  | none => false
  | some f => decide ((List.range r).map f = s')
def ych (r : Nat) : List (List Nat) → Bool
  | [] => true
  | s :: rest => (match rest with
    | [] => (ynx r (fun j => s.getD j 0)).isNone
    | s' :: _ => ynb r s s') && ych r rest
def yokL (k u : Nat) : Bool := decide (ypc u ≤ k) && (decide ((yLv k (k - ypc u) u).head? = some ((List.range k).filter (fun c => !u.testBit c))) && ((yLv k (k - ypc u) u).all (fun s => decide (s.length = k - ypc u) && s.all (fun c => decide (c < k))) && ych (k - ypc u) (yLv k (k - ypc u) u)))
theorem y_okL : ∀ k, k ≤ 6 → ∀ u, u < 2 ^ k → yokL k u = true := by decide +kernel
theorem y_orc : ∀ u, u < 64 → ∀ c, c < 6 → u.testBit c = false → ypc (u ||| 2 ^ c) = ypc u + 1 := by decide +kernel
