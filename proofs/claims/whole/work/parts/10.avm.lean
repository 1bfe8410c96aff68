/-! THE ABSTRACT MACHINE: cells by number (the order in which they are made), ints, longs and references apart; a method's run as a predicate transformer -/
abbrev zF : Type := Nat × Nat × (Nat → Nat ⊕ (Nat × Nat)) × (Nat → Nat → Option Nat)
abbrev zM : Type := zF × (Nat → Nat → Int32) × (Nat → Nat → Int64)
abbrev zQ : Type := zM → Option Value → Prop
abbrev zX : Type := Nat → List Value → List Value → zM → Prop
abbrev zC : Type := Nat → zM → List Value → zQ → Prop
def zup {α : Type} (f : Nat → Nat → α) (c j : Nat) (v : α) : Nat → Nat → α := fun c' j' => if c' = c then (if j' = j then v else f c' j') else f c' j'
def zrow {α : Type} (f : Nat → Nat → α) (c : Nat) (g : Nat → α) : Nat → Nat → α := fun c' j' => if c' = c then g j' else f c' j'
def zn (M : zM) : Nat := M.1.1
def zsl (M : zM) : Nat := M.1.2.1
def zS (M : zM) (c : Nat) : Nat ⊕ (Nat × Nat) := M.1.2.2.1 c
def zR (M : zM) (c j : Nat) : Option Nat := M.1.2.2.2 c j
def zI (M : zM) (c j : Nat) : Int32 := M.2.1 c j
def zL (M : zM) (c j : Nat) : Int64 := M.2.2 c j
def zwI (M : zM) (c j : Nat) (v : Int32) : zM := (M.1, zup M.2.1 c j v, M.2.2)
def zwL (M : zM) (c j : Nat) (v : Int64) : zM := (M.1, M.2.1, zup M.2.2 c j v)
def zwR (M : zM) (c j : Nat) (v : Option Nat) : zM := ((M.1.1, M.1.2.1, M.1.2.2.1, zup M.1.2.2.2 c j v), M.2.1, M.2.2)
/-- a new cell of that shape and so many slots -/
def znew (M : zM) (sh : Nat ⊕ (Nat × Nat)) (N : Nat) : zM := ((M.1.1 + 1, M.1.2.1 + N, (fun c => if c = M.1.1 then sh else M.1.2.2.1 c), zrow M.1.2.2.2 M.1.1 (fun _ => none)), zrow M.2.1 M.1.1 (fun _ => 0), zrow M.2.2 M.1.1 (fun _ => 0))
/-- System.arraycopy of ints -/
def zcpy (M : zM) (q0 sp q1 dp n : Nat) : zM := (M.1, zrow M.2.1 q1 (va_cpy (M.2.1 q0) (M.2.1 q1) sp dp n), M.2.2)
/-- how many cells and slots a method makes: by number; those that make none aren't listed -/
def zfind : List zE → Nat → Option zE
  | [], _ => none
  | e :: es, pc => match Nat.beq e.1 pc with
    | true => some e
    | false => zfind es pc
def zcat : List Value → Nat
  | [] => 0
  | v :: r => v.category + zcat r
/-- a branch: to A where the relation holds, else to B; said by = and < alone; gone where both are written out -/
def zif2 (b : Bool) (A B : Prop) : Prop := match b with
  | true => A
  | false => B
def zbr (k : ClassFile.Cond) (x y : Int32) (A B : Prop) : Prop := match k with
  | .eq => zif2 (decide (x = y)) A B
  | .ne => zif2 (decide (x = y)) B A
  | .lt => zif2 (decide (x < y)) A B
  | .ge => zif2 (decide (x < y)) B A
  | .gt => zif2 (decide (y < x)) A B
  | .le => zif2 (decide (y < x)) B A
/-- a switch: the first pair that fits -/
def zsw (x : Int32) (P : Nat → Prop) (d : Nat) : List (Int32 × Nat) → Prop
  | [] => P d
  | q :: qs => zif2 (decide (x = q.1)) (P q.2) (zsw x P d qs)
def ztab (pc : Nat) : Int → List Int → List (Int32 × Nat)
  | _, [] => []
  | k, o :: os => (Int32.ofInt k, ((pc : Int) + o).toNat) :: ztab pc (k + 1) os
def zloo (pc : Nat) : List (Int × Int) → List (Int32 × Nat)
  | [] => []
  | q :: qs => (Int32.ofInt q.1, ((pc : Int) + q.2).toNat) :: zloo pc qs
/-- the arrays that are only read: 1 the script, 2 FACTORIALS, 5 and 6 the bytes of the two String constants (3, 4) -/
def zwords : List Int32 := [109, 101, 109, 98, 101, 114, 32, 32, 99, 108, 97, 117, 115, 101, 32, 32, 119, 105, 110, 100, 115, 32, 32, 32, 99, 111, 99, 107, 32, 32, 32, 32, 113, 117, 111, 116, 97, 32, 32, 32, 112, 117, 110, 115, 32, 32, 32, 32, 100, 114, 97, 119, 32, 32, 32, 32, 105, 110, 32, 32, 32, 32, 32, 32, 111, 117, 116, 32, 32, 32, 32, 32, 111, 114, 32, 32, 32, 32, 32, 32, 97, 110, 100, 32, 32, 32, 32, 32, 110, 111, 116, 32, 32, 32, 32, 32, 115, 104, 97, 114, 112, 32, 32, 32, 109, 105, 110, 100, 115, 32, 32, 32, 118, 111, 116, 101, 115, 32, 32, 32, 110, 111, 116, 99, 104, 32, 32, 32, 102, 97, 108, 108, 105, 110, 103, 32, 114, 101, 97, 100, 32, 32, 32, 32]
def zsigns : List Int32 := [59, 40, 41, 60, 62, 61, 43, 45, 42, 47, 37]
def zfacts : List Int32 := [1, 1, 2, 6, 24, 120, 720, 5040]
def zspA (xs : List Int32) : Nat → Option (Nat × List Int32)
  | 1 => some (0, xs)
  | 2 => some (0, zfacts)
  | 5 => some (1, zwords)
  | 6 => some (1, zsigns)
  | _ => none
/-- checks that are gone where their terms are written out: a shape of an object, of an array, a reference, an index, a boolean -/
def zix (i : Int32) (n : Nat) (P : Prop) : Prop := match decide (i < 0), Nat.ble n i.toNatClampNeg with
  | false, false => P
  | _, _ => False
def zbo (x : Int32) (P : Prop) : Prop := match decide (x = 0), decide (x = 1) with
  | false, false => False
  | _, _ => P
/-- names zix beside what it is: so that the checks of shapes are opened ahead of those of numbers -/
def zcst (P : Prop) (_ : Int32 → Nat → Prop → Prop) (_ : Int32 → Prop → Prop) : Prop := P
def zck (s : Nat ⊕ (Nat × Nat)) (a : Nat) (P : Prop) : Prop := zcst (match s with
  | .inl a' => (match Nat.beq a' a with
    | true => P
    | false => False)
  | .inr _ => False) zix zbo
def zsh (s : Nat ⊕ (Nat × Nat)) (t : Nat) (P : Nat → Prop) : Prop := zcst (match s with
  | .inl _ => False
  | .inr (t', n) => (match Nat.beq t' t with
    | true => P n
    | false => False)) zix zbo
def zro (o : Option Nat) (P : Nat → Prop) : Prop := zcst (match o with
  | some t => P t
  | none => False) zix zbo
def zldi (X : zX) (np : Nat) (ls : List Value) (a : Nat) (st : List Value) (M : zM) : Prop := match ls.getD a (.retAddr 0) with
  | .int x => X np ls (.int x :: st) M
  | _ => False
def zldl (X : zX) (np : Nat) (ls : List Value) (a : Nat) (st : List Value) (M : zM) : Prop := match ls.getD a (.retAddr 0) with
  | .long x => X np ls (.long x :: st) M
  | _ => False
def zlda (X : zX) (np : Nat) (ls : List Value) (a : Nat) (st : List Value) (M : zM) : Prop := match ls.getD a (.retAddr 0) with
  | .ref x => X np ls (.ref x :: st) M
  | .retAddr k => (match Nat.ble 1 k, Nat.ble k 6 with
    | true, true => X np ls (.retAddr k :: st) M
    | _, _ => False)
  | _ => False
def zsti (X : zX) (np : Nat) (ls : List Value) (a : Nat) (st : List Value) (M : zM) : Prop := match st with
  | .int x :: r => X np (ls.set a (.int x)) r M
  | _ => False
def zsta (X : zX) (np : Nat) (ls : List Value) (a : Nat) (st : List Value) (M : zM) : Prop := match st with
  | .ref x :: r => X np (ls.set a (.ref x)) r M
  | _ => False
def zinc (X : zX) (np : Nat) (ls : List Value) (a : Nat) (v : Value) (st : List Value) (M : zM) : Prop := match ls.getD a (.retAddr 0), v with
  | .int x, .int k => X np (ls.set a (.int (x + k))) st M
  | _, _ => False
def zun (f : Int32 → Int32) (X : zX) (np : Nat) (ls st : List Value) (M : zM) : Prop := match st with
  | .int x :: r => X np ls (.int (f x) :: r) M
  | _ => False
def zbin (f : Int32 → Int32 → Int32) (X : zX) (np : Nat) (ls st : List Value) (M : zM) : Prop := match st with
  | .int y :: .int x :: r => X np ls (.int (f x y) :: r) M
  | _ => False
def zdiv (f : Int32 → Int32 → Int32) (X : zX) (np : Nat) (ls st : List Value) (M : zM) : Prop := match st with
  | .int y :: .int x :: r => ¬ y = 0 ∧ X np ls (.int (f x y) :: r) M
  | _ => False
def zlcm (X : zX) (np : Nat) (ls st : List Value) (M : zM) : Prop := match st with
  | .long y :: .long x :: r => X np ls (.int (lg_cmp x y) :: r) M
  | _ => False
def zlor (X : zX) (np : Nat) (ls st : List Value) (M : zM) : Prop := match st with
  | .long y :: .long x :: r => X np ls (.long (x ||| y) :: r) M
  | _ => False
def zlsh (X : zX) (np : Nat) (ls st : List Value) (M : zM) : Prop := match st with
  | .int y :: .long x :: r => X np ls (.long (x <<< (y.toInt64 &&& 63)) :: r) M
  | _ => False
def zi2l (X : zX) (np : Nat) (ls st : List Value) (M : zM) : Prop := match st with
  | .int x :: r => X np ls (.long x.toInt64 :: r) M
  | _ => False
def zic (c : ClassFile.Cond) (X : zX) (tgt np : Nat) (ls st : List Value) (M : zM) : Prop := match st with
  | .int y :: .int x :: r => zbr c x y (X tgt ls r M) (X np ls r M)
  | _ => False
def zif (c : ClassFile.Cond) (X : zX) (tgt np : Nat) (ls st : List Value) (M : zM) : Prop := match st with
  | .int x :: r => zbr c x 0 (X tgt ls r M) (X np ls r M)
  | _ => False
def zsws (ps : List (Int32 × Nat)) (d : Nat) (X : zX) (ls st : List Value) (M : zM) : Prop := match st with
  | .int x :: r => zsw x (fun t => X t ls r M) d ps
  | _ => False
def zdup (X : zX) (np : Nat) (ls st : List Value) (M : zM) : Prop := match st with
  | .int x :: r => X np ls (.int x :: .int x :: r) M
  | .ref x :: r => X np ls (.ref x :: .ref x :: r) M
  | _ => False
def zdup2 (X : zX) (np : Nat) (ls st : List Value) (M : zM) : Prop := match st with
  | .int x :: .ref y :: r => X np ls (.int x :: .ref y :: .int x :: .ref y :: r) M
  | _ => False
def zpop (X : zX) (np : Nat) (ls st : List Value) (M : zM) : Prop := match st with
  | .int _ :: r => X np ls r M
  | .ref _ :: r => X np ls r M
  | _ => False
/-- a field: class a (99: String), place b, sort c (4 a reference, 3 a long, 2 a boolean, 0 an int) -/
def zgf (a b c : Nat) (X : zX) (np : Nat) (ls st : List Value) (M : zM) : Prop := match st with
  | .ref q :: r => zck (zS M q) a (match c with
    | 4 => zro (zR M q b) (fun t => X np ls (.ref t :: r) M)
    | 3 => X np ls (.long (zL M q b) :: r) M
    | _ => X np ls (.int (zI M q b) :: r) M)
  | .retAddr k :: r => (match a, b, k with
    | 99, 0, 3 => X np ls (.retAddr 5 :: r) M
    | 99, 0, 4 => X np ls (.retAddr 6 :: r) M
    | 99, 1, 3 => X np ls (.int 0 :: r) M
    | 99, 1, 4 => X np ls (.int 0 :: r) M
    | _, _, _ => False)
  | _ => False
def zpf (a b c : Nat) (X : zX) (np : Nat) (ls st : List Value) (M : zM) : Prop := match c, st with
  | 0, .int x :: .ref q :: r => zck (zS M q) a (X np ls r (zwI M q b x))
  | 2, .int x :: .ref q :: r => zck (zS M q) a (zbo x (X np ls r (zwI M q b x)))
  | 3, .long x :: .ref q :: r => zck (zS M q) a (X np ls r (zwL M q b x))
  | 4, .ref t :: .ref q :: r => zck (zS M q) a (X np ls r (zwR M q b (some t)))
  | _, _ => False
def zal (xs : List Int32) (t : Nat) (X : zX) (np : Nat) (ls st : List Value) (M : zM) : Prop := match st with
  | .int i :: .ref q :: r => zsh (zS M q) t (fun n => zix i n (X np ls (.int (zI M q i.toNatClampNeg) :: r) M))
  | .int i :: .retAddr k :: r => (match zspA xs k with
    | some (t', l) => (match Nat.beq t' t with
      | true => zix i l.length (X np ls (.int (l.getD i.toNatClampNeg 0) :: r) M)
      | false => False)
    | none => False)
  | _ => False
def zll (X : zX) (np : Nat) (ls st : List Value) (M : zM) : Prop := match st with
  | .int i :: .ref q :: r => zsh (zS M q) 3 (fun n => zix i n (X np ls (.long (zL M q i.toNatClampNeg) :: r) M))
  | _ => False
def zaa (X : zX) (np : Nat) (ls st : List Value) (M : zM) : Prop := match st with
  | .int i :: .ref q :: r => zsh (zS M q) 4 (fun n => zix i n (zro (zR M q i.toNatClampNeg) (fun t => X np ls (.ref t :: r) M)))
  | _ => False
def zas (t : Nat) (f : Int32 → Int32) (X : zX) (np : Nat) (ls st : List Value) (M : zM) : Prop := match st with
  | .int x :: .int i :: .ref q :: r => zsh (zS M q) t (fun n => zix i n (X np ls r (zwI M q i.toNatClampNeg (f x))))
  | _ => False
def zls (X : zX) (np : Nat) (ls st : List Value) (M : zM) : Prop := match st with
  | .long x :: .int i :: .ref q :: r => zsh (zS M q) 3 (fun n => zix i n (X np ls r (zwL M q i.toNatClampNeg x)))
  | _ => False
def zaas (X : zX) (np : Nat) (ls st : List Value) (M : zM) : Prop := match st with
  | .ref t :: .int i :: .ref q :: r => zsh (zS M q) 4 (fun n => zix i n (zck (zS M t) 6 (X np ls r (zwR M q i.toNatClampNeg (some t)))))
  | _ => False
def zlen (xs : List Int32) (X : zX) (np : Nat) (ls st : List Value) (M : zM) : Prop := match st with
  | .ref q :: r => (match zS M q with
    | .inl _ => False
    | .inr (t, n) => (match Nat.blt t 5 with
      | true => X np ls (.int (nI n) :: r) M
      | false => False))
  | .retAddr k :: r => (match zspA xs k with
    | some (_, l) => X np ls (.int (nI l.length) :: r) M
    | none => False)
  | _ => False
def znw (Bn Bs a b : Nat) (X : zX) (np : Nat) (ls st : List Value) (M : zM) : Prop := zn M + 1 ≤ Bn ∧ zsl M + b ≤ Bs ∧ X np ls (.ref (zn M) :: st) (znew M (.inl a) b)
def zna (Bn Bs t : Nat) (X : zX) (np : Nat) (ls st : List Value) (M : zM) : Prop := match st with
  | .int k :: r => ¬ k < 0 ∧ k.toNatClampNeg ≤ 100000 ∧ zn M + 1 ≤ Bn ∧ zsl M + k.toNatClampNeg ≤ Bs ∧ X np ls (.ref (zn M) :: r) (znew M (.inr (t, k.toNatClampNeg)) k.toNatClampNeg)
  | _ => False
/-- a call's answer: where the callee makes nothing and writes no reference, all but ints and longs is as it was -/
abbrev zIL : Type := (Nat → Nat → Int32) × (Nat → Nat → Int64)
def zkI (F : zF) (f : zIL → Int32 → Prop) : zQ := fun M o => M.1 = F ∧ (match o with
  | some (.int x) => f M.2 x
  | _ => False)
def zkA (F : zF) (f : zIL → Nat → Prop) : zQ := fun M o => M.1 = F ∧ (match o with
  | some (.ref x) => f M.2 x
  | _ => False)
def zkV (F : zF) (f : zIL → Prop) : zQ := fun M o => M.1 = F ∧ (match o with
  | none => f M.2
  | _ => False)
def zans (c : Nat) (F : zF) (X : zX) (np : Nat) (ls r : List Value) : zQ := match c with
  | 0 => zkV F (fun IL => X np ls r (F, IL))
  | 1 => zkI F (fun IL x => X np ls (.int x :: r) (F, IL))
  | 2 => zkA F (fun IL x => X np ls (.ref x :: r) (F, IL))
  | _ => fun _ _ => False
/-- of a callee that makes cells or writes references -/
def zuV (n s : Nat) (f : zM → Prop) : zQ := fun M o => zn M = n ∧ zsl M = s ∧ (match o with
  | none => f M
  | _ => False)
def zuI (n s : Nat) (f : zM → Int32 → Prop) : zQ := fun M o => zn M = n ∧ zsl M = s ∧ (match o with
  | some (.int x) => f M x
  | _ => False)
def zanu (c n s : Nat) (X : zX) (np : Nat) (ls r : List Value) : zQ := match c with
  | 0 => zuV n s (fun M => X np ls r M)
  | 1 => zuI n s (fun M x => X np ls (.int x :: r) M)
  | _ => fun _ _ => False
/-- a call of method a with b values (its receiver too); v: null, or the cells (by a million) and slots that it makes -/
def zcl (C : zC) (Bn Bs a b c : Nat) (v : Value) (X : zX) (np : Nat) (ls st : List Value) (M : zM) : Prop := match Nat.ble b st.length, Nat.ble (zcat (st.drop b)) 8 with
  | true, true => (match v with
    | .ref mc => zn M + mc / 1000000 ≤ Bn ∧ zsl M + mc % 1000000 ≤ Bs ∧ C a M (st.take b).reverse (zanu c (zn M + mc / 1000000) (zsl M + mc % 1000000) X np ls (st.drop b))
    | _ => C a M (st.take b).reverse (zans c M.1 X np ls (st.drop b)))
  | _, _ => False
/-- the receiver of a virtual call: an object of that class (13: String) -/
def zvr (v : Value) (M : zM) (o : Nat) (P : Prop) : Prop := match v with
  | .ref q => zck (zS M q) o P
  | .retAddr k => (match k, o with
    | 3, 13 => P
    | 4, 13 => P
    | _, _ => False)
  | _ => False
def zsr (v : Value) (P : Prop) : Prop := match v with
  | .ref _ => P
  | _ => False
def zoi (X : zX) (np : Nat) (ls st : List Value) (M : zM) : Prop := match st with
  | .ref _ :: r => (match Nat.ble (zcat r) 8 with
    | true => X np ls r M
    | false => False)
  | _ => False
def zac (X : zX) (np : Nat) (ls st : List Value) (M : zM) : Prop := match st with
  | [.int n, .int dp, .ref q1, .int sp, .ref q0] => zsh (zS M q0) 0 (fun n0 => zsh (zS M q1) 0 (fun n1 => (match decide (sp < 0), decide (dp < 0), decide (n < 0), Nat.ble (sp.toNatClampNeg + n.toNatClampNeg) n0, Nat.ble (dp.toNatClampNeg + n.toNatClampNeg) n1 with
    | false, false, false, true, true => X np ls [] (zcpy M q0 sp.toNatClampNeg q1 dp.toNatClampNeg n.toNatClampNeg)
    | _, _, _, _, _ => False)))
  | _ => False
/-- an int's return: c 2 of a boolean, 5 of a char, 1 of a byte, else of an int -/
def zri (c : Nat) (Q : zQ) (st : List Value) (M : zM) : Prop := match st with
  | [.int x] => (match c with
    | 2 => zbo x (Q M (some (.int x)))
    | 5 => narrow .char (.int x) = .int x ∧ Q M (some (.int x))
    | 1 => narrow .byte (.int x) = .int x ∧ Q M (some (.int x))
    | _ => Q M (some (.int x)))
  | _ => False
def zra (Q : zQ) (st : List Value) (M : zM) : Prop := match st with
  | [.ref x] => Q M (some (.ref x))
  | _ => False
def zrv (Q : zQ) (st : List Value) (M : zM) : Prop := match st with
  | [] => Q M none
  | _ => False
/-- what a small array keeps of an int -/
def zbn (c : Nat) : Int32 → Int32 := match c with
  | 1 => vp_nar .byte
  | _ => vp_nar .boolean
/-- one instruction -/
def zop (xs : List Int32) (C : zC) (Bn Bs : Nat) (Q : zQ) (X : zX) (pc np : Nat) (ins : Instr) (a b c : Nat) (v : Value) (ls st : List Value) (M : zM) : Prop := match ins with
  | .iload _ => zldi X np ls a st M
  | .iload_n _ => zldi X np ls a st M
  | .aload _ => zlda X np ls a st M
  | .aload_n _ => zlda X np ls a st M
  | .lload_n _ => zldl X np ls a st M
  | .istore _ => zsti X np ls a st M
  | .istore_n _ => zsti X np ls a st M
  | .astore _ => zsta X np ls a st M
  | .astore_n _ => zsta X np ls a st M
  | .iinc _ _ => zinc X np ls a v st M
  | .iconst _ => X np ls (v :: st) M
  | .bipush _ => X np ls (v :: st) M
  | .sipush _ => X np ls (v :: st) M
  | .lconst _ => X np ls (v :: st) M
  | .ldc _ => X np ls (v :: st) M
  | .ldc_w _ => X np ls (v :: st) M
  | .ldc2_w _ => X np ls (v :: st) M
  | .getstatic _ => X np ls (v :: st) M
  | .iadd => zbin (fun x y => x + y) X np ls st M
  | .isub => zbin (fun x y => x - y) X np ls st M
  | .imul => zbin (fun x y => x * y) X np ls st M
  | .iand => zbin (fun x y => x &&& y) X np ls st M
  | .ior => zbin (fun x y => x ||| y) X np ls st M
  | .ixor => zbin (fun x y => x ^^^ y) X np ls st M
  | .ishl => zbin (fun x y => x <<< (y &&& 31)) X np ls st M
  | .ishr => zbin (fun x y => x >>> (y &&& 31)) X np ls st M
  | .iushr => zbin (fun x y => (x.toUInt32 >>> (y.toUInt32 &&& Int32.toUInt32 31)).toInt32) X np ls st M
  | .idiv => zdiv (fun x y => x / y) X np ls st M
  | .irem => zdiv (fun x y => x - x / y * y) X np ls st M
  | .ineg => zun (fun x => -x) X np ls st M
  | .i2b => zun (fun x => x.toInt8.toInt32) X np ls st M
  | .i2c => zun (fun x => (x.toUInt32 % 65536).toInt32) X np ls st M
  | .i2l => zi2l X np ls st M
  | .lcmp => zlcm X np ls st M
  | .lor => zlor X np ls st M
  | .lshl => zlsh X np ls st M
  | .if_icmp k _ => zic k X a np ls st M
  | .ifCond k _ => zif k X a np ls st M
  | .goto _ => X a ls st M
  | .tableswitch d lo _ os => zsws (ztab pc lo os.toList) ((pc : Int) + d).toNat X ls st M
  | .lookupswitch d ps => zsws (zloo pc ps.toList) ((pc : Int) + d).toNat X ls st M
  | .dup => zdup X np ls st M
  | .dup2 => zdup2 X np ls st M
  | .pop => zpop X np ls st M
  | .getfield _ => zgf a b c X np ls st M
  | .putfield _ => zpf a b c X np ls st M
  | .iaload => zal xs 0 X np ls st M
  | .baload => zal xs c X np ls st M
  | .laload => zll X np ls st M
  | .aaload => zaa X np ls st M
  | .iastore => zas 0 (fun x => x) X np ls st M
  | .bastore => zas c (zbn c) X np ls st M
  | .lastore => zls X np ls st M
  | .aastore => zaas X np ls st M
  | .arraylength => zlen xs X np ls st M
  | .new _ => znw Bn Bs a b X np ls st M
  | .newarray _ => zna Bn Bs a X np ls st M
  | .anewarray _ => zna Bn Bs 4 X np ls st M
  | .invokevirtual _ => zvr (st.getD (b - 1) .null) M (c / 4) (zcl C Bn Bs a b (c % 4) v X np ls st M)
  | .invokestatic _ => (match c with
    | 8 => zac X np ls st M
    | _ => zcl C Bn Bs a b c v X np ls st M)
  | .invokespecial _ => (match c with
    | 9 => zoi X np ls st M
    | _ => zsr (st.getD (b - 1) .null) (zcl C Bn Bs a b c v X np ls st M))
  | .ireturn => zri c Q st M
  | .areturn => zra Q st M
  | .return_ => zrv Q st M
  | _ => False
def zat (xs : List Int32) (C : zC) (Bn Bs : Nat) (cd : List zE) (Q : zQ) (X : zX) (pc : Nat) (ls st : List Value) (M : zM) : Prop := match zfind cd pc with
  | some (p, len, ins, a, b, c, v) => zop xs C Bn Bs Q X p (p + len) ins a b c v ls st M
  | none => False
/-- a run from there ends, and Q holds of its end: the least predicate that is closed under the steps -/
def zgo (xs : List Int32) (C : zC) (Bn Bs : Nat) (cd : List zE) (Q : zQ) : zX := fun pc ls st M => ∀ X : zX, (∀ pc ls st M, zat xs C Bn Bs cd Q X pc ls st M → X pc ls st M) → X pc ls st M
/-- so many steps, but not beyond the places in 'stops' -/
def zrun (xs : List Int32) (C : zC) (Bn Bs : Nat) (cd : List zE) (Q : zQ) (stops : List Nat) (X : zX) : Nat → zX
  | 0 => X
  | k + 1 => fun pc ls st M => match stops.elem pc with
    | true => X pc ls st M
    | false => zat xs C Bn Bs cd Q (zrun xs C Bn Bs cd Q stops X k) pc ls st M
def zflat : List Value → List Value
  | [] => []
  | .long x :: r => .long x :: .retAddr 0 :: zflat r
  | .double x :: r => .double x :: .retAddr 0 :: zflat r
  | v :: r => v :: zflat r
def zlocs (as : List Value) (n : Nat) : List Value := zflat as ++ List.replicate (n - (zflat as).length) (.retAddr 0)
