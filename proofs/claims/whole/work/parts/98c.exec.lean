/-! the constructors, run: a small executor over listed memory -/
abbrev eM : Type := Nat × Nat × List (Nat × (Nat ⊕ (Nat × Nat))) × List (Nat × Nat × Nat) × List (Nat × Nat × Int32) × List (Nat × Nat × Int64)
def esh : List (Nat × (Nat ⊕ (Nat × Nat))) → Nat → Nat ⊕ (Nat × Nat)
  | [], _ => .inr (9, 0)
  | e :: r, c => if c = e.1 then e.2 else esh r c
def erf : List (Nat × Nat × Nat) → Nat → Nat → Option Nat
  | [], _, _ => none
  | e :: r, c, j => if c = e.1 then (if j = e.2.1 then some e.2.2 else erf r c j) else erf r c j
def eli : List (Nat × Nat × Int32) → Nat → Nat → Int32
  | [], _, _ => 0
  | e :: r, c, j => if c = e.1 then (if j = e.2.1 then e.2.2 else eli r c j) else eli r c j
def ell : List (Nat × Nat × Int64) → Nat → Nat → Int64
  | [], _, _ => 0
  | e :: r, c, j => if c = e.1 then (if j = e.2.1 then e.2.2 else ell r c j) else ell r c j
def emem (E : eM) : zM := ((E.1, E.2.1, esh E.2.2.1, erf E.2.2.2.1), eli E.2.2.2.2.1, ell E.2.2.2.2.2)
abbrev eO : Type := Option (eM × Option Value)
abbrev eX : Type := Nat → List Value → List Value → eM → eO
def enew (E : eM) (sh : Nat ⊕ (Nat × Nat)) (N : Nat) : Option eM := match E.2.2.2.1.all (fun e => Nat.blt e.1 E.1), E.2.2.2.2.1.all (fun e => Nat.blt e.1 E.1), E.2.2.2.2.2.all (fun e => Nat.blt e.1 E.1) with
  | true, true, true => some (E.1 + 1, E.2.1 + N, (E.1, sh) :: E.2.2.1, E.2.2.2.1, E.2.2.2.2.1, E.2.2.2.2.2)
  | _, _, _ => none
def ewI (E : eM) (c j : Nat) (v : Int32) : eM := (E.1, E.2.1, E.2.2.1, E.2.2.2.1, (c, j, v) :: E.2.2.2.2.1, E.2.2.2.2.2)
def ewL (E : eM) (c j : Nat) (v : Int64) : eM := (E.1, E.2.1, E.2.2.1, E.2.2.2.1, E.2.2.2.2.1, (c, j, v) :: E.2.2.2.2.2)
def ewR (E : eM) (c j t : Nat) : eM := (E.1, E.2.1, E.2.2.1, (c, j, t) :: E.2.2.2.1, E.2.2.2.2.1, E.2.2.2.2.2)
theorem erf_n {n : Nat} : ∀ (R : List (Nat × Nat × Nat)), R.all (fun e => Nat.blt e.1 n) = true → ∀ c j, n ≤ c → erf R c j = none
  | [], _, _, _, _ => rfl
  | e :: r, h, c, j, hc => by
    rw [List.all_cons, Bool.and_eq_true] at h
    have h1 : e.1 < n := Nat.blt_eq.mp h.1
    unfold erf
    rw [if_neg (by omega)]
    exact erf_n r h.2 c j hc
theorem eli_n {n : Nat} : ∀ (R : List (Nat × Nat × Int32)), R.all (fun e => Nat.blt e.1 n) = true → ∀ c j, n ≤ c → eli R c j = 0
  | [], _, _, _, _ => rfl
  | e :: r, h, c, j, hc => by
    rw [List.all_cons, Bool.and_eq_true] at h
    have h1 : e.1 < n := Nat.blt_eq.mp h.1
    unfold eli
    rw [if_neg (by omega)]
    exact eli_n r h.2 c j hc
theorem ell_n {n : Nat} : ∀ (R : List (Nat × Nat × Int64)), R.all (fun e => Nat.blt e.1 n) = true → ∀ c j, n ≤ c → ell R c j = 0
  | [], _, _, _, _ => rfl
  | e :: r, h, c, j, hc => by
    rw [List.all_cons, Bool.and_eq_true] at h
    have h1 : e.1 < n := Nat.blt_eq.mp h.1
    unfold ell
    rw [if_neg (by omega)]
    exact ell_n r h.2 c j hc
theorem zrow_id {α : Type} {f : Nat → Nat → α} {n : Nat} {g : Nat → α} (h : ∀ j, f n j = g j) : zrow f n g = f := by
  funext c j
  unfold zrow
  by_cases e : c = n
  · rw [if_pos e, e, h]
  · rw [if_neg e]
theorem enew_s {E E2 : eM} {sh : Nat ⊕ (Nat × Nat)} {N : Nat} (h : enew E sh N = some E2) : znew (emem E) sh N = emem E2 := by
  unfold enew at h
  split at h
  · have e := Option.some.inj h
    subst e
    show ((E.1 + 1, E.2.1 + N, (fun c => if c = E.1 then sh else esh E.2.2.1 c), zrow (erf E.2.2.2.1) E.1 (fun _ => none)), zrow (eli E.2.2.2.2.1) E.1 (fun _ => 0), zrow (ell E.2.2.2.2.2) E.1 (fun _ => 0)) = _
    rw [zrow_id (fun j => erf_n _ ‹_› E.1 j (Nat.le_refl _)), zrow_id (fun j => eli_n _ ‹_› E.1 j (Nat.le_refl _)), zrow_id (fun j => ell_n _ ‹_› E.1 j (Nat.le_refl _))]
    rfl
  · cases h
def e_lda (X : eX) (np : Nat) (ls : List Value) (a : Nat) (st : List Value) (E : eM) : eO := match ls.getD a (.retAddr 0) with
  | .ref x => X np ls (.ref x :: st) E
  | _ => none
def e_ldi (X : eX) (np : Nat) (ls : List Value) (a : Nat) (st : List Value) (E : eM) : eO := match ls.getD a (.retAddr 0) with
  | .int x => X np ls (.int x :: st) E
  | _ => none
def e_sti (X : eX) (np : Nat) (ls : List Value) (a : Nat) (st : List Value) (E : eM) : eO := match st with
  | .int x :: r => X np (ls.set a (.int x)) r E
  | _ => none
def e_inc (X : eX) (np : Nat) (ls : List Value) (a : Nat) (v : Value) (st : List Value) (E : eM) : eO := match ls.getD a (.retAddr 0), v with
  | .int x, .int k => X np (ls.set a (.int (x + k))) st E
  | _, _ => none
def e_and (X : eX) (np : Nat) (ls st : List Value) (E : eM) : eO := match st with
  | .int y :: .int x :: r => X np ls (.int (x &&& y) :: r) E
  | _ => none
def e_div (X : eX) (np : Nat) (ls st : List Value) (E : eM) : eO := match st with
  | .int y :: .int x :: r => (match decide (y = 0) with
    | true => none
    | false => X np ls (.int (x / y) :: r) E)
  | _ => none
def e_i2l (X : eX) (np : Nat) (ls st : List Value) (E : eM) : eO := match st with
  | .int x :: r => X np ls (.long x.toInt64 :: r) E
  | _ => none
def e_lor (X : eX) (np : Nat) (ls st : List Value) (E : eM) : eO := match st with
  | .long y :: .long x :: r => X np ls (.long (x ||| y) :: r) E
  | _ => none
def e_lsh (X : eX) (np : Nat) (ls st : List Value) (E : eM) : eO := match st with
  | .int y :: .long x :: r => X np ls (.long (x <<< (y.toInt64 &&& 63)) :: r) E
  | _ => none
def e_if2 (b : Bool) (A B : eO) : eO := match b with
  | true => A
  | false => B
def e_br (k : ClassFile.Cond) (x y : Int32) (A B : eO) : eO := match k with
  | .eq => e_if2 (decide (x = y)) A B
  | .ne => e_if2 (decide (x = y)) B A
  | .lt => e_if2 (decide (x < y)) A B
  | .ge => e_if2 (decide (x < y)) B A
  | .gt => e_if2 (decide (y < x)) A B
  | .le => e_if2 (decide (y < x)) B A
def e_ic (c : ClassFile.Cond) (X : eX) (tgt np : Nat) (ls st : List Value) (E : eM) : eO := match st with
  | .int y :: .int x :: r => e_br c x y (X tgt ls r E) (X np ls r E)
  | _ => none
def e_dup (X : eX) (np : Nat) (ls st : List Value) (E : eM) : eO := match st with
  | .ref x :: r => X np ls (.ref x :: .ref x :: r) E
  | _ => none
/-- checks of a shape, of an index -/
def e_ck (s : Nat ⊕ (Nat × Nat)) (a : Nat) (A : eO) : eO := match s with
  | .inl a' => (match Nat.beq a' a with
    | true => A
    | false => none)
  | .inr _ => none
def e_sh (s : Nat ⊕ (Nat × Nat)) (t : Nat) (A : Nat → eO) : eO := match s with
  | .inl _ => none
  | .inr (t', n) => (match Nat.beq t' t with
    | true => A n
    | false => none)
def e_ix (i : Int32) (n : Nat) (A : eO) : eO := match decide (i < 0), Nat.ble n i.toNatClampNeg with
  | false, false => A
  | _, _ => none
def e_gf (a b c : Nat) (X : eX) (np : Nat) (ls st : List Value) (E : eM) : eO := match st with
  | .ref q :: r => e_ck (esh E.2.2.1 q) a (match c with
    | 4 => (match erf E.2.2.2.1 q b with
      | some t => X np ls (.ref t :: r) E
      | none => none)
    | _ => none)
  | _ => none
def e_pf (a b c : Nat) (X : eX) (np : Nat) (ls st : List Value) (E : eM) : eO := match c, st with
  | 0, .int x :: .ref q :: r => e_ck (esh E.2.2.1 q) a (X np ls r (ewI E q b x))
  | 4, .ref t :: .ref q :: r => e_ck (esh E.2.2.1 q) a (X np ls r (ewR E q b t))
  | _, _ => none
def e_ll (X : eX) (np : Nat) (ls st : List Value) (E : eM) : eO := match st with
  | .int i :: .ref q :: r => e_sh (esh E.2.2.1 q) 3 (fun n => e_ix i n (X np ls (.long (ell E.2.2.2.2.2 q i.toNatClampNeg) :: r) E))
  | _ => none
def e_ls (X : eX) (np : Nat) (ls st : List Value) (E : eM) : eO := match st with
  | .long x :: .int i :: .ref q :: r => e_sh (esh E.2.2.1 q) 3 (fun n => e_ix i n (X np ls r (ewL E q i.toNatClampNeg x)))
  | _ => none
def e_aas (X : eX) (np : Nat) (ls st : List Value) (E : eM) : eO := match st with
  | .ref t :: .int i :: .ref q :: r => e_sh (esh E.2.2.1 q) 4 (fun n => e_ix i n (e_ck (esh E.2.2.1 t) 6 (X np ls r (ewR E q i.toNatClampNeg t))))
  | _ => none
def e_nw (Bn Bs a b : Nat) (X : eX) (np : Nat) (ls st : List Value) (E : eM) : eO := match Nat.ble (E.1 + 1) Bn, Nat.ble (E.2.1 + b) Bs, enew E (.inl a) b with
  | true, true, some E2 => X np ls (.ref E.1 :: st) E2
  | _, _, _ => none
def e_na (Bn Bs t : Nat) (X : eX) (np : Nat) (ls st : List Value) (E : eM) : eO := match st with
  | .int k :: r => (match decide (k < 0), Nat.ble k.toNatClampNeg 100000, Nat.ble (E.1 + 1) Bn, Nat.ble (E.2.1 + k.toNatClampNeg) Bs, enew E (.inr (t, k.toNatClampNeg)) k.toNatClampNeg with
    | false, true, true, true, some E2 => X np ls (.ref E.1 :: r) E2
    | _, _, _, _, _ => none)
  | _ => none
abbrev eC : Type := Nat → eM → List Value → eO
def e_cl (C : eC) (Bn Bs a b c : Nat) (v : Value) (X : eX) (np : Nat) (ls st : List Value) (E : eM) : eO := match Nat.ble b st.length, Nat.ble (zcat (st.drop b)) 8 with
  | true, true => (match v with
    | .ref mc => (match Nat.ble (E.1 + mc / 1000000) Bn, Nat.ble (E.2.1 + mc % 1000000) Bs, c, C a E (st.take b).reverse with
      | true, true, 0, some (E2, none) => (match Nat.beq E2.1 (E.1 + mc / 1000000), Nat.beq E2.2.1 (E.2.1 + mc % 1000000) with
        | true, true => X np ls (st.drop b) E2
        | _, _ => none)
      | _, _, _, _ => none)
    | .null => (match c, C a E (st.take b).reverse with
      | 0, some (E2, none) => (match decide (E2.1 = E.1 ∧ E2.2.1 = E.2.1 ∧ E2.2.2.1 = E.2.2.1 ∧ E2.2.2.2.1 = E.2.2.2.1) with
        | true => X np ls (st.drop b) E2
        | false => none)
      | 1, some (E2, some (.int x)) => (match decide (E2.1 = E.1 ∧ E2.2.1 = E.2.1 ∧ E2.2.2.1 = E.2.2.1 ∧ E2.2.2.2.1 = E.2.2.2.1) with
        | true => X np ls (.int x :: st.drop b) E2
        | false => none)
      | _, _ => none)
    | _ => none)
  | _, _ => none
def e_vr (v : Value) (E : eM) (o : Nat) (A : eO) : eO := match v with
  | .ref q => e_ck (esh E.2.2.1 q) o A
  | .retAddr k => (match k, o with
    | 3, 13 => A
    | _, _ => none)
  | _ => none
def e_sr (v : Value) (A : eO) : eO := match v with
  | .ref _ => A
  | _ => none
def e_oi (X : eX) (np : Nat) (ls st : List Value) (E : eM) : eO := match st with
  | .ref _ :: r => (match Nat.ble (zcat r) 8 with
    | true => X np ls r E
    | false => none)
  | _ => none
def e_rv (st : List Value) (E : eM) : eO := match st with
  | [] => some (E, none)
  | _ => none
def e_op (C : eC) (Bn Bs : Nat) (X : eX) (np : Nat) (ins : Instr) (a b c : Nat) (v : Value) (ls st : List Value) (E : eM) : eO := match ins with
  | .aload_n _ => e_lda X np ls a st E
  | .iload_n _ => e_ldi X np ls a st E
  | .istore_n _ => e_sti X np ls a st E
  | .iinc _ _ => e_inc X np ls a v st E
  | .iconst _ => X np ls (v :: st) E
  | .bipush _ => X np ls (v :: st) E
  | .sipush _ => X np ls (v :: st) E
  | .ldc _ => X np ls (v :: st) E
  | .iand => e_and X np ls st E
  | .idiv => e_div X np ls st E
  | .i2l => e_i2l X np ls st E
  | .lor => e_lor X np ls st E
  | .lshl => e_lsh X np ls st E
  | .if_icmp k _ => e_ic k X a np ls st E
  | .goto _ => X a ls st E
  | .dup => e_dup X np ls st E
  | .getfield _ => e_gf a b c X np ls st E
  | .putfield _ => e_pf a b c X np ls st E
  | .laload => e_ll X np ls st E
  | .lastore => e_ls X np ls st E
  | .aastore => e_aas X np ls st E
  | .new _ => e_nw Bn Bs a b X np ls st E
  | .newarray _ => e_na Bn Bs a X np ls st E
  | .anewarray _ => e_na Bn Bs 4 X np ls st E
  | .invokevirtual _ => e_vr (st.getD (b - 1) .null) E (c / 4) (e_cl C Bn Bs a b (c % 4) v X np ls st E)
  | .invokespecial _ => (match c with
    | 9 => e_oi X np ls st E
    | _ => e_sr (st.getD (b - 1) .null) (e_cl C Bn Bs a b c v X np ls st E))
  | .return_ => e_rv st E
  | _ => none
section ESOUND
variable {xs : List Int32} {C : zC} {Bn Bs : Nat} {Q : zQ} {XP : zX} {X : eX} {R : eM × Option Value} {EC : eC} {np a b c tgt : Nat} {v : Value} {ls st : List Value} {E : eM}
theorem s_lda (hX : ∀ pc ls st E, X pc ls st E = some R → XP pc ls st (emem E)) (h : e_lda X np ls a st E = some R) : zlda XP np ls a st (emem E) := by
  unfold e_lda at h
  split at h
  · unfold zlda
    rw [‹ls.getD a (.retAddr 0) = _›]
    exact hX _ _ _ _ h
  · cases h
theorem s_ldi (hX : ∀ pc ls st E, X pc ls st E = some R → XP pc ls st (emem E)) (h : e_ldi X np ls a st E = some R) : zldi XP np ls a st (emem E) := by
  unfold e_ldi at h
  split at h
  · unfold zldi
    rw [‹ls.getD a (.retAddr 0) = _›]
    exact hX _ _ _ _ h
  · cases h
theorem s_sti (hX : ∀ pc ls st E, X pc ls st E = some R → XP pc ls st (emem E)) (h : e_sti X np ls a st E = some R) : zsti XP np ls a st (emem E) := by
  unfold e_sti at h
  split at h
  · exact hX _ _ _ _ h
  · cases h
theorem s_inc (hX : ∀ pc ls st E, X pc ls st E = some R → XP pc ls st (emem E)) (h : e_inc X np ls a v st E = some R) : zinc XP np ls a v st (emem E) := by
  unfold e_inc at h
  split at h
  · unfold zinc
    rw [‹ls.getD a (.retAddr 0) = _›]
    exact hX _ _ _ _ h
  · cases h
theorem s_and (hX : ∀ pc ls st E, X pc ls st E = some R → XP pc ls st (emem E)) (h : e_and X np ls st E = some R) : zbin (fun x y => x &&& y) XP np ls st (emem E) := by
  unfold e_and at h
  split at h
  · exact hX _ _ _ _ h
  · cases h
theorem s_div (hX : ∀ pc ls st E, X pc ls st E = some R → XP pc ls st (emem E)) (h : e_div X np ls st E = some R) : zdiv (fun x y => x / y) XP np ls st (emem E) := by
  unfold e_div at h
  split at h
  · split at h
    · cases h
    · exact ⟨of_decide_eq_false ‹_›, hX _ _ _ _ h⟩
  · cases h
theorem s_i2l (hX : ∀ pc ls st E, X pc ls st E = some R → XP pc ls st (emem E)) (h : e_i2l X np ls st E = some R) : zi2l XP np ls st (emem E) := by
  unfold e_i2l at h
  split at h
  · exact hX _ _ _ _ h
  · cases h
theorem s_lor (hX : ∀ pc ls st E, X pc ls st E = some R → XP pc ls st (emem E)) (h : e_lor X np ls st E = some R) : zlor XP np ls st (emem E) := by
  unfold e_lor at h
  split at h
  · exact hX _ _ _ _ h
  · cases h
theorem s_lsh (hX : ∀ pc ls st E, X pc ls st E = some R → XP pc ls st (emem E)) (h : e_lsh X np ls st E = some R) : zlsh XP np ls st (emem E) := by
  unfold e_lsh at h
  split at h
  · exact hX _ _ _ _ h
  · cases h
theorem s_if2 {b : Bool} {A B : eO} {P1 P2 : Prop} (h1 : A = some R → P1) (h2 : B = some R → P2) (h : e_if2 b A B = some R) : zif2 b P1 P2 := by
  cases b
  · exact h2 h
  · exact h1 h
theorem s_br {k : ClassFile.Cond} {x y : Int32} {A B : eO} {P1 P2 : Prop} (h1 : A = some R → P1) (h2 : B = some R → P2) (h : e_br k x y A B = some R) : zbr k x y P1 P2 := by
  cases k
  all_goals first | exact s_if2 h1 h2 h | exact s_if2 h2 h1 h
theorem s_ic {k : ClassFile.Cond} (hX : ∀ pc ls st E, X pc ls st E = some R → XP pc ls st (emem E)) (h : e_ic k X tgt np ls st E = some R) : zic k XP tgt np ls st (emem E) := by
  unfold e_ic at h
  split at h
  · exact s_br (hX _ _ _ _) (hX _ _ _ _) h
  · cases h
theorem s_dup (hX : ∀ pc ls st E, X pc ls st E = some R → XP pc ls st (emem E)) (h : e_dup X np ls st E = some R) : zdup XP np ls st (emem E) := by
  unfold e_dup at h
  split at h
  · exact hX _ _ _ _ h
  · cases h
theorem s_ck {s : Nat ⊕ (Nat × Nat)} {A : eO} {P : Prop} (h1 : A = some R → P) (h : e_ck s a A = some R) : zck s a P := by
  cases s with
  | inl a' =>
    unfold e_ck at h
    unfold zck zcst
    show (match Nat.beq a' a with
      | true => P
      | false => False)
    have h' : (match Nat.beq a' a with
      | true => A
      | false => none) = some R := h
    cases e : Nat.beq a' a
    · rw [e] at h'; cases h'
    · rw [e] at h'; exact h1 h'
  | inr p => cases h
theorem s_sh {s : Nat ⊕ (Nat × Nat)} {t : Nat} {A : Nat → eO} {P : Nat → Prop} (h1 : ∀ n, A n = some R → P n) (h : e_sh s t A = some R) : zsh s t P := by
  cases s with
  | inl a' => cases h
  | inr p =>
    obtain ⟨t', n⟩ := p
    unfold e_sh at h
    unfold zsh zcst
    show (match Nat.beq t' t with
      | true => P n
      | false => False)
    have h' : (match Nat.beq t' t with
      | true => A n
      | false => none) = some R := h
    cases e : Nat.beq t' t
    · rw [e] at h'; cases h'
    · rw [e] at h'; exact h1 n h'
theorem s_ix {i : Int32} {n : Nat} {A : eO} {P : Prop} (h1 : A = some R → P) (h : e_ix i n A = some R) : zix i n P := by
  unfold e_ix at h
  unfold zix
  split at h
  · rw [‹decide (i < 0) = false›, ‹Nat.ble n i.toNatClampNeg = false›]
    exact h1 h
  · cases h
theorem s_gf (hX : ∀ pc ls st E, X pc ls st E = some R → XP pc ls st (emem E)) (h : e_gf a b c X np ls st E = some R) : zgf a b c XP np ls st (emem E) := by
  unfold e_gf at h
  split at h
  · refine s_ck (fun h2 => ?_) h
    split at h2
    · split at h2
      · rename_i e
        show zro (erf E.2.2.2.1 _ b) _
        rw [e]
        exact hX _ _ _ _ h2
      · cases h2
    · cases h2
  · cases h
theorem s_pf (hX : ∀ pc ls st E, X pc ls st E = some R → XP pc ls st (emem E)) (h : e_pf a b c X np ls st E = some R) : zpf a b c XP np ls st (emem E) := by
  unfold e_pf at h
  split at h
  · exact s_ck (fun h2 => hX _ _ _ _ h2) h
  · exact s_ck (fun h2 => hX _ _ _ _ h2) h
  · cases h
theorem s_ll (hX : ∀ pc ls st E, X pc ls st E = some R → XP pc ls st (emem E)) (h : e_ll X np ls st E = some R) : zll XP np ls st (emem E) := by
  unfold e_ll at h
  split at h
  · exact s_sh (fun n h2 => s_ix (fun h3 => hX _ _ _ _ h3) h2) h
  · cases h
theorem s_ls (hX : ∀ pc ls st E, X pc ls st E = some R → XP pc ls st (emem E)) (h : e_ls X np ls st E = some R) : zls XP np ls st (emem E) := by
  unfold e_ls at h
  split at h
  · exact s_sh (fun n h2 => s_ix (fun h3 => hX _ _ _ _ h3) h2) h
  · cases h
theorem s_aas (hX : ∀ pc ls st E, X pc ls st E = some R → XP pc ls st (emem E)) (h : e_aas X np ls st E = some R) : zaas XP np ls st (emem E) := by
  unfold e_aas at h
  split at h
  · exact s_sh (fun n h2 => s_ix (fun h3 => s_ck (fun h4 => hX _ _ _ _ h4) h3) h2) h
  · cases h
theorem s_nw (hX : ∀ pc ls st E, X pc ls st E = some R → XP pc ls st (emem E)) (h : e_nw Bn Bs a b X np ls st E = some R) : znw Bn Bs a b XP np ls st (emem E) := by
  unfold e_nw at h
  split at h
  · rename_i h1 h2 h3
    refine ⟨Nat.le_of_ble_eq_true h1, Nat.le_of_ble_eq_true h2, ?_⟩
    rw [enew_s h3]
    exact hX _ _ _ _ h
  · cases h
theorem s_na {t : Nat} (hX : ∀ pc ls st E, X pc ls st E = some R → XP pc ls st (emem E)) (h : e_na Bn Bs t X np ls st E = some R) : zna Bn Bs t XP np ls st (emem E) := by
  unfold e_na at h
  split at h
  · split at h
    · rename_i h0 h1 h2 h3 h4
      refine ⟨of_decide_eq_false h0, Nat.le_of_ble_eq_true h1, Nat.le_of_ble_eq_true h2, Nat.le_of_ble_eq_true h3, ?_⟩
      rw [enew_s h4]
      exact hX _ _ _ _ h
    · cases h
  · cases h
theorem eF_s {E E2 : eM} (h : E2.1 = E.1 ∧ E2.2.1 = E.2.1 ∧ E2.2.2.1 = E.2.2.1 ∧ E2.2.2.2.1 = E.2.2.2.1) : (emem E2).1 = (emem E).1 := by
  show (E2.1, E2.2.1, esh E2.2.2.1, erf E2.2.2.2.1) = (E.1, E.2.1, esh E.2.2.1, erf E.2.2.2.1)
  rw [h.1, h.2.1, h.2.2.1, h.2.2.2]
theorem s_cl (hC : ∀ a E as R', EC a E as = some R' → ∀ Q', Q' (emem R'.1) R'.2 → C a (emem E) as Q') (hX : ∀ pc ls st E, X pc ls st E = some R → XP pc ls st (emem E)) (h : e_cl EC Bn Bs a b c v X np ls st E = some R) : zcl C Bn Bs a b c v XP np ls st (emem E) := by
  unfold e_cl at h
  unfold zcl
  split at h
  · rename_i g1 g2
    rw [g1, g2]
    split at h
    · split at h
      · rename_i k1 k2 k3
        split at h
        · rename_i l1 l2
          refine ⟨Nat.le_of_ble_eq_true k1, Nat.le_of_ble_eq_true k2, hC _ _ _ _ k3 _ ⟨Nat.eq_of_beq_eq_true l1, Nat.eq_of_beq_eq_true l2, ?_⟩⟩
          exact hX _ _ _ _ h
        · cases h
      · cases h
    · split at h
      · rename_i k3
        split at h
        · rename_i l1
          have e := eF_s (of_decide_eq_true l1)
          refine hC _ _ _ _ k3 _ ⟨e, ?_⟩
          show XP np ls (st.drop b) ((emem E).1, (emem _).2)
          rw [← e]
          exact hX _ _ _ _ h
        · cases h
      · rename_i k3
        split at h
        · rename_i l1
          have e := eF_s (of_decide_eq_true l1)
          refine hC _ _ _ _ k3 _ ⟨e, ?_⟩
          show XP np ls (_ :: st.drop b) ((emem E).1, (emem _).2)
          rw [← e]
          exact hX _ _ _ _ h
        · cases h
      · cases h
    · cases h
  · cases h
theorem s_vr {o : Nat} {A : eO} {P : Prop} (h1 : A = some R → P) (h : e_vr v E o A = some R) : zvr v (emem E) o P := by
  unfold e_vr at h
  split at h
  · exact s_ck h1 h
  · split at h
    · exact h1 h
    · cases h
  · cases h
theorem s_sr {A : eO} {P : Prop} (h1 : A = some R → P) (h : e_sr v A = some R) : zsr v P := by
  unfold e_sr at h
  split at h
  · exact h1 h
  · cases h
theorem s_oi (hX : ∀ pc ls st E, X pc ls st E = some R → XP pc ls st (emem E)) (h : e_oi X np ls st E = some R) : zoi XP np ls st (emem E) := by
  unfold e_oi at h
  split at h
  · unfold zoi
    split at h
    · rename_i e
      show (match Nat.ble (zcat _) 8 with
        | true => _
        | false => False)
      rw [e]
      exact hX _ _ _ _ h
    · cases h
  · cases h
theorem s_rv (hq : Q (emem R.1) R.2) (h : e_rv st E = some R) : zrv Q st (emem E) := by
  unfold e_rv at h
  split at h
  · have e := Option.some.inj h
    subst e
    exact hq
  · cases h
theorem s_op {ins : Instr} {pc : Nat} (hC : ∀ a E as R', EC a E as = some R' → ∀ Q', Q' (emem R'.1) R'.2 → C a (emem E) as Q') (hX : ∀ pc ls st E, X pc ls st E = some R → XP pc ls st (emem E)) (hq : Q (emem R.1) R.2) (h : e_op EC Bn Bs X np ins a b c v ls st E = some R) : zop xs C Bn Bs Q XP pc np ins a b c v ls st (emem E) := by
  unfold e_op at h
  split at h
  · exact s_lda hX h
  · exact s_ldi hX h
  · exact s_sti hX h
  · exact s_inc hX h
  · exact hX _ _ _ _ h
  · exact hX _ _ _ _ h
  · exact hX _ _ _ _ h
  · exact hX _ _ _ _ h
  · exact s_and hX h
  · exact s_div hX h
  · exact s_i2l hX h
  · exact s_lor hX h
  · exact s_lsh hX h
  · exact s_ic hX h
  · exact hX _ _ _ _ h
  · exact s_dup hX h
  · exact s_gf hX h
  · exact s_pf hX h
  · exact s_ll hX h
  · exact s_ls hX h
  · exact s_aas hX h
  · exact s_nw hX h
  · exact s_na hX h
  · exact s_na hX h
  · exact s_vr (fun h2 => s_cl hC hX h2) h
  · split at h
    · exact s_oi hX h
    · rename_i hc9
      have g : zsr (st.getD (b - 1) .null) (zcl C Bn Bs a b c v XP np ls st (emem E)) := s_sr (fun h2 => s_cl hC hX h2) h
      show (match (generalizing := false) c with
        | 9 => zoi XP np ls st (emem E)
        | _ => zsr (st.getD (b - 1) .null) (zcl C Bn Bs a b c v XP np ls st (emem E)))
      split
      · exact absurd rfl hc9
      · exact g
  · exact s_rv hq h
  · cases h
end ESOUND
/-- so many steps, so deep -/
def e_run : Nat → Nat → Nat → Nat → List zE → eX
  | 0, _, _, _, _ => fun _ _ _ _ => none
  | f + 1, d, Bn, Bs, cd => fun pc ls st E => match zfind cd pc with
    | some (p, len, ins, a, b, c, v) => e_op (fun a' E' as => match Nat.beq a' 12 with
        | true => (match Nat.ble 4 d, as with
          | true, [.retAddr 3, .int i] => e_ix i 144 (some (E', some (.int (zwords.getD i.toNatClampNeg 0))))
          | _, _ => none)
        | false => (match d with
          | 0 => none
          | d' + 1 => (match zent a' as with
            | true => e_run f d' (E'.1 + (zalc a').1) (E'.2.1 + (zalc a').2) (zcode a') 0 (zlocs as (znl a')) [] E'
            | false => none))) Bn Bs (e_run f d Bn Bs cd) (p + len) ins a b c v ls st E
    | none => none
