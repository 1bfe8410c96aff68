/-! calls -/
def zflc : List Value → Bool
  | [] => true
  | v :: r => Nat.beq v.category 1 && zflc r
/-- the arguments fit -/
def zent (a : Nat) (as : List Value) : Bool := Nat.ble (zflat as).length (znl a) && (!(zlg a) || zflc as)
/-- a call of a method, so many frames deep at most -/
def zcall (xs : List Int32) : Nat → zC
  | 0 => fun _ _ _ _ => False
  | d + 1 => fun a M as Q => match zent a as with
    | true => zgo xs (zcall xs d) (zn M + (zalc a).1) (zsl M + (zalc a).2) (zcode a) Q 0 (zlocs as (znl a)) [] M
    | false => False
theorem zcall_m (xs : List Int32) : ∀ d, zCm (zcall xs d)
  | 0 => fun _ _ _ _ _ _ h => h
  | d + 1 => fun a M as Q Q2 hQ h => by
    unfold zcall at h ⊢
    split at h
    · exact zgo_mono (zcall_m xs d) hQ h
    · exact h.elim
theorem zcall_s (xs : List Int32) : ∀ d, ∀ a M as (Q Q' : zQ), (∀ M r, Q M r → Q' M r) → zcall xs d a M as Q → zcall xs (d + 1) a M as Q'
  | 0 => fun _ _ _ _ _ _ h => h.elim
  | d + 1 => fun a M as Q Q2 hQ h => by
    unfold zcall at h ⊢
    split at h
    · exact zgo_mono (zcall_s xs d) hQ h
    · exact h.elim
theorem zcall_le {xs : List Int32} {d e : Nat} {a : Nat} {M : zM} {as : List Value} {Q : zQ} (hde : d ≤ e) (h : zcall xs d a M as Q) : zcall xs e a M as Q := by
  obtain ⟨k, rfl⟩ := Nat.le.dest hde
  induction k with
  | zero => exact h
  | succ k ih => exact zcall_s xs (d + k) a M as Q Q (fun _ _ => id) (ih (by omega))
