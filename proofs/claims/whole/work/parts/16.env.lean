/-! what the tables and the cells that are only read say, at every state of the run -/
def zbty (t : Nat) : FieldType := match t with
  | 0 => .int
  | _ => .byte
def ztx3 : String := "member  clause  winds   cock    quota   puns    draw    in      out     or      and     not     sharp   minds   votes   notch   falling read    "
def ztx4 : String := ";()<>=+-*/%"
def zenv (D : va_G) (H0 : Heap) (xs : List Int32) (sv : Nat → Value) (dA : Nat → ClassId) (U : State) : Prop :=
  va_K D vwCl (ztys dA) U ∧ (∀ o i a k, zmq o i a k = true → znestk k = true → va_Nw (zml o i a k) U) ∧ va_Nw (.fieldLinkNest RX4 89 RX7 "FACTORIALS" "[I" RX7) U ∧ va_AO RX6 U ∧
  (∃ a, sv 3 = .ref a ∧ vk_R RX5 29 ztx3 a U) ∧ (∃ a, sv 4 = .ref a ∧ vk_R RX5 171 ztx4 a U) ∧
  va_Z RJ0 "COMPACT_STRINGS" "Z" (.int 1) (fun q => H0.size ≤ q) U H0 ∧ va_Z RJ3 "SIOOBE_FORMATTER" "Ljava/util/function/BiFunction;" (sv 7) (fun q => H0.size ≤ q) U H0 ∧ va_Z RX7 "FACTORIALS" "[I" (sv 2) (fun q => H0.size ≤ q) U H0 ∧
  (∀ k t l, zspA xs k = some (t, l) → ∃ a, sv k = .ref a ∧ va_T (zbty t) a l.length (fun j => .int (l.getD j 0)) (fun q => H0.size ≤ q) U H0) ∧
  (∀ k, k = 3 ∨ k = 4 → ∃ a, sv k = .ref a ∧ va_O RJ0 a (fun q => H0.size ≤ q) U H0 ∧ va_OF RJ0 "value" "[B" (sv (k + 2)) a (fun q => H0.size ≤ q) U H0 ∧ va_OF RJ0 "coder" "B" (.int 0) a (fun q => H0.size ≤ q) U H0)
section ENV
variable {D : va_G} {H0 : Heap} {xs : List Int32} {sv : Nat → Value} {dA : Nat → ClassId} {u U : State}
theorem znest_form {o i a k : Nat} (h : znestk k = true) : zml o i a k = .methodLinkNest (zcn.getD o "") i (zy a) RX7 := by
  unfold znestk at h
  split at h
  · rfl
  · rfl
  · cases h
theorem zenv_same (hv : u.vm = U.vm) (h : zenv D H0 xs sv dA u) : zenv D H0 xs sv dA U := by
  have al : u.vm.Alike U.vm := hv ▸ Vm.Alike.refl u.vm
  obtain ⟨h1, h2, h3, h4, ⟨a5, e5, h5⟩, ⟨a6, e6, h6⟩, h7, h8, h9, h10, h11⟩ := h
  refine ⟨va_K.moved al h1, fun o i a k hq hk => ?_, va_Nw.same rfl hv h3, h4.moved al, ⟨a5, e5, vk_R.same hv.symm h5⟩, ⟨a6, e6, vk_R.same hv.symm h6⟩, h7.moved al, h8.moved al, h9.moved al, fun k t l hk => ?_, fun k hk => ?_⟩
  · have := h2 o i a k hq hk
    rw [znest_form hk] at this ⊢
    exact va_Nw.same rfl hv this
  · obtain ⟨a, e, g⟩ := h10 k t l hk
    exact ⟨a, e, g.moved al⟩
  · obtain ⟨a, e, g1, g2, g3⟩ := h11 k hk
    exact ⟨a, e, g1.moved al, g2.moved al, g3.moved al⟩
theorem zenv_warm (hW : u.WarmedH U.vm) (h : zenv D H0 xs sv dA u) : zenv D H0 xs sv dA U := by
  have al : u.vm.Alike U.vm := hW.alike
  obtain ⟨h1, h2, h3, h4, ⟨a5, e5, h5⟩, ⟨a6, e6, h6⟩, h7, h8, h9, h10, h11⟩ := h
  refine ⟨va_K.moved al h1, fun o i a k hq hk => ?_, va_Nw.warmF hW h3, h4.moved al, ⟨a5, e5, vk_R.warm hW h5⟩, ⟨a6, e6, vk_R.warm hW h6⟩, h7.moved al, h8.moved al, h9.moved al, fun k t l hk => ?_, fun k hk => ?_⟩
  · have := h2 o i a k hq hk
    rw [znest_form hk] at this ⊢
    exact va_Nw.warmM hW this
  · obtain ⟨a, e, g⟩ := h10 k t l hk
    exact ⟨a, e, g.moved al⟩
  · obtain ⟨a, e, g1, g2, g3⟩ := h11 k hk
    exact ⟨a, e, g1.moved al, g2.moved al, g3.moved al⟩
end ENV
/-- a method's frame: what is known while it runs -/
def zctx (D : va_G) (H0 : Heap) (xs : List Int32) (sv : Nat → Value) (dA : Nat → ClassId) (mi : Nat) (p : Program) (s : State) (m : MethodId) (args : Array Value) (meth : Method) (c : Code) : Prop :=
  p.tables.exec = Jvm.exec ∧ c.code = zbs mi ∧ c.maxLocals = znl mi ∧ meth.sig.returnType = zrt mi ∧ s.vm.findClass (zow mi) = some m.cls ∧ (∀ w ∈ zgw, w.before args s = true) ∧ meth.locks = false ∧ ((zy mi).name = "<init>" → meth.name = "<init>") ∧ zenv D H0 xs sv dA s ∧ H0.size ≤ s.heap.size ∧ (∀ q : Nat, q < H0.size → s.heap[q]? = H0[q]?) ∧ ∀ k, (sv k).category = 1
/-- the locals -/
def zlv (z : Nat) (sv : Nat → Value) (lsA : Array Slot) (n : Nat) (ls : List Value) : Prop := lsA.size = n ∧ lv_wf lsA ∧ ls.length = n ∧ ∀ (i : Nat) (v : Value), ls[i]? = some v → v ≠ .retAddr 0 → lsA[i]? = some (.val (zcv z sv v))
def zinv (D : va_G) (H0 : Heap) (sv : Nat → Value) (dA : Nat → ClassId) (mi n0 s0 : Nat) (R : Room) (s : State) (H : Heap) (locs : List Loc) (lsA : Array Slot) (cells slots : Nat) (ls : List Value) (M : zM) : Prop :=
  zrep D H0 dA M H ∧ (∀ x ∈ locs, H0.size ≤ x.base) ∧ zlv H0.size sv lsA (znl mi) ls ∧ (zlg mi = true → zflc ls = true) ∧ cells + n0 = zn M ∧ slots + s0 = zsl M ∧ zn M ≤ n0 + R.cells ∧ zsl M ≤ s0 + R.slots ∧ s.heap.size ≤ H.size
def zXW (D : va_G) (H0 : Heap) (sv : Nat → Value) (dA : Nat → ClassId) (mi n0 s0 : Nat) (p : Program) (l : Launch) (e : Env) (R : Room) (s : State) (m : MethodId) (args : Array Value) (below : List Frame) (meth : Method) (c : Code) (Qf : State → Prop) : zX :=
  fun pc ls st M => ∀ H locs lsA cells slots, zinv D H0 sv dA mi n0 s0 R s H locs lsA cells slots ls M → W p l e R s m args below meth c H locs cells slots Qf (F0 m pc lsA (st.map (zcv H0.size sv)))
section LOC
variable {z n : Nat} {sv : Nat → Value} {lsA : Array Slot} {ls : List Value}
theorem zlv_get (h : zlv z sv lsA n ls) {a : Nat} {v : Value} (hv : ls.getD a (.retAddr 0) = v) (hne : v ≠ .retAddr 0) : lsA[a]? = some (.val (zcv z sv v)) := by
  rw [List.getD_eq_getElem?_getD] at hv
  cases hq : ls[a]? with
  | none =>
    rw [hq] at hv
    exact absurd hv.symm hne
  | some w =>
    rw [hq] at hv
    have hw : w = v := hv
    subst hw
    exact h.2.2.2 a w hq hne
theorem zcv_cat (hsv : ∀ k, (sv k).category = 1) {v : Value} : (zcv z sv v).category = v.category := by
  cases v <;> first | rfl | exact hsv _
theorem zcat_map (hsv : ∀ k, (sv k).category = 1) : ∀ st : List Value, ((st.map (zcv z sv)).map fun v => v.category).sum = zcat st
  | [] => rfl
  | v :: r => by
    rw [List.map_cons, List.map_cons, List.sum_cons, zcv_cat hsv, zcat_map hsv r]
    rfl
theorem zflc_mem : ∀ {ls : List Value}, zflc ls = true → ∀ v ∈ ls, v.category = 1
  | [], _, v, h => by cases h
  | w :: r, h, v, hv => by
    have h' : (Nat.beq w.category 1 && zflc r) = true := h
    rw [Bool.and_eq_true] at h'
    rcases List.mem_cons.mp hv with e | e
    · rw [e]; exact Nat.eq_of_beq_eq_true h'.1
    · exact zflc_mem h'.2 v e
theorem zflc_of : ∀ {ls : List Value}, (∀ v ∈ ls, v.category = 1) → zflc ls = true
  | [], _ => rfl
  | w :: r, h => by
    show (Nat.beq w.category 1 && zflc r) = true
    rw [h w List.mem_cons_self, zflc_of (fun v hv => h v (List.mem_cons_of_mem _ hv))]
    rfl
theorem zflc_set (h : zflc ls = true) {a : Nat} {v : Value} (hv : v.category = 1) : zflc (ls.set a v) = true := by
  refine zflc_of fun w hw => ?_
  rcases List.mem_or_eq_of_mem_set hw with e | e
  · exact zflc_mem h w e
  · rw [e]; exact hv
/-- the listed locals, as the rows of the kit want them -/
def zprs (z : Nat) (sv : Nat → Value) (ls : List Value) : List (Nat × Value) := (List.range ls.length).filterMap (fun i => match ls[i]? with
  | some v => if v = .retAddr 0 then none else some (i, zcv z sv v)
  | none => none)
theorem zprs_mem {q : Nat × Value} : q ∈ zprs z sv ls ↔ ∃ v, ls[q.1]? = some v ∧ v ≠ .retAddr 0 ∧ q.2 = zcv z sv v := by
  unfold zprs
  rw [List.mem_filterMap]
  constructor
  · rintro ⟨i, hi, h⟩
    cases hv : ls[i]? with
    | none => rw [hv] at h; cases h
    | some v =>
      rw [hv] at h
      by_cases e : v = .retAddr 0
      · simp [e] at h
      · simp only [e, if_false] at h
        cases h
        exact ⟨v, hv, e, rfl⟩
  · rintro ⟨v, hv, hne, hq⟩
    have hi : q.1 < ls.length := (List.getElem?_eq_some_iff.mp hv).1
    refine ⟨q.1, List.mem_range.mpr hi, ?_⟩
    rw [hv]
    simp only [hne, if_false]
    rw [← hq]
theorem zlv_has (h : zlv z sv lsA n ls) : lv_has lsA n (zprs z sv ls) := ⟨h.1, h.2.1, fun q hq => by
  obtain ⟨v, hv, hne, e⟩ := zprs_mem.mp hq
  rw [e]
  exact h.2.2.2 q.1 v hv hne⟩
theorem zlv_set (hsv : ∀ k, (sv k).category = 1) (h : zlv z sv lsA n ls) (hf : zflc ls = true) {a : Nat} {v : Value} {lsB : Array Slot} (hB : lv_has lsB n ((a, zcv z sv v) :: (zprs z sv ls).filter (fun q => !(q.1 == a) && !(q.1 + 1 == a && q.2.category == 2)))) : zlv z sv lsB n (ls.set a v) := by
  refine ⟨hB.1, hB.2.1, by rw [List.length_set]; exact h.2.2.1, fun i w hw hne => ?_⟩
  rw [List.getElem?_set] at hw
  by_cases e : a = i
  · subst e
    rw [if_pos rfl] at hw
    by_cases hl : a < ls.length
    · rw [if_pos hl] at hw
      cases hw
      exact hB.2.2 (a, zcv z sv v) List.mem_cons_self
    · rw [if_neg hl] at hw
      cases hw
  · rw [if_neg e] at hw
    refine hB.2.2 (i, zcv z sv w) (List.mem_cons_of_mem _ (List.mem_filter.mpr ⟨zprs_mem.mpr ⟨w, hw, hne, rfl⟩, ?_⟩))
    have hc : (zcv z sv w).category = 1 := by rw [zcv_cat hsv]; exact zflc_mem hf w (List.mem_of_getElem? hw)
    have h1 : (i == a) = false := by simp; exact fun q => e q.symm
    simp [h1, hc]
end LOC
