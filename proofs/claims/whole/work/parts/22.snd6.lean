/-! calls and returns, one step each -/
section SND6
variable {p : Program} {l : Launch} {e : Env} {R : Room} {s : State} {m : MethodId} {args : Array Value} {below : List Frame} {meth : Method} {c : Code} {Qf : State → Prop}
variable {D : va_G} {H0 : Heap} {xs : List Int32} {sv : Nat → Value} {dA : Nat → ClassId} {mi n0 s0 : Nat} {X : zX}
variable {pc : Nat} {ls st : List Value} {M : zM} {a b : Nat} {v : Value} {C : zC} {Bn Bs d i k : Nat}
theorem ztake (h1 : 1 ≤ b) (h2 : b ≤ st.length) : (st.take b).reverse = st.getD (b - 1) .null :: (st.take (b - 1)).reverse := by
  obtain ⟨n, rfl⟩ : ∃ n, b = n + 1 := ⟨b - 1, by omega⟩
  have hn : n < st.length := by omega
  rw [List.take_succ, List.reverse_append, Nat.add_sub_cancel, List.getD_eq_getElem?_getD, List.getElem?_eq_getElem hn]
  rfl
theorem zstack {w : Value} (h1 : 1 ≤ b) (h2 : b ≤ st.length) (hw : zcv H0.size sv (st.getD (b - 1) .null) = w) : st.map (zcv H0.size sv) = ((st.take (b - 1)).reverse.map (zcv H0.size sv)).reverse ++ w :: (st.drop b).map (zcv H0.size sv) := by
  rw [zsplit (H0 := H0) (sv := sv) h2, ztake h1 h2, List.map_cons, List.reverse_cons, hw, List.append_assoc]
  rfl
theorem zback {r : Option Value} {st : List Value} : (r.map (zcv H0.size sv)).toList ++ st.map (zcv H0.size sv) = (r.toList ++ st).map (zcv H0.size sv) := by
  cases r <;> rfl
theorem zmw0 (h : zmw a 0 = true) : Cond.instanceMethod (zy a) ∈ zgw ∧ Cond.selects (zy a).cls (zy a) (zy a) ∈ zgw := by
  unfold zmw at h
  generalize zmr.getD a (0, 0, 0, 0, 0) = t at h
  obtain ⟨t1, t2, t3, t4, t5⟩ := t
  simp only [Bool.and_eq_true] at h
  exact ⟨zwd_in h.1, zwd_in h.2⟩
theorem zmw1 (h : zmw a 1 = true) : Cond.static (zy a) ∈ zgw := by
  unfold zmw at h
  generalize zmr.getD a (0, 0, 0, 0, 0) = t at h
  obtain ⟨t1, t2, t3, t4, t5⟩ := t
  exact zwd_in h
theorem zmw2 (h : zmw a 2 = true) : Cond.static (zy a) ∈ zgw := by
  unfold zmw at h
  generalize zmr.getD a (0, 0, 0, 0, 0) = t at h
  obtain ⟨t1, t2, t3, t4, t5⟩ := t
  exact zwd_in h
theorem zmw3 (h : zmw a 3 = true) : Cond.instanceMethod (zy a) ∈ zgw ∧ (zy a).name = "<init>" ∧ zrt a = none := by
  unfold zmw at h
  generalize zmr.getD a (0, 0, 0, 0, 0) = t at h
  obtain ⟨t1, t2, t3, t4, t5⟩ := t
  simp only [Bool.and_eq_true, decide_eq_true_eq] at h
  exact ⟨zwd_in h.1.1, h.1.2, h.2⟩
theorem zmw4 (h : zmw a 4 = true) : Cond.instanceMethod (zy a) ∈ zgw ∧ (zy a).name = "<init>" ∧ zrt a = none := by
  unfold zmw at h
  generalize zmr.getD a (0, 0, 0, 0, 0) = t at h
  obtain ⟨t1, t2, t3, t4, t5⟩ := t
  simp only [Bool.and_eq_true, decide_eq_true_eq] at h
  exact ⟨zwd_in h.1.1, h.1.2, h.2⟩
theorem zcn_9 : ∀ o, o < 9 → zcn.getD o "" = (zcls o).1 := z9 rfl rfl rfl rfl rfl rfl rfl rfl rfl
theorem zs_static (hX : X = zXW D H0 sv dA mi n0 s0 p l e R s m args below meth c Qf) (K : zctx D H0 xs sv dA mi p s m args meth c) (hBn : Bn = n0 + R.cells) (hBs : Bs = s0 + R.slots) (hR1 : d + 1 ≤ R.frames) (hR2 : 40 * (d + 1) ≤ R.locals) (hC : ∀ a M as Q, a < 283 → C a M as Q → zmet l D H0 xs sv dA d a M as Q) (hd : decode (zbs mi) pc = .ok (.invokestatic i, 3)) (hm : zmq (zoc mi) i a 1 = true ∨ zmq (zoc mi) i a 2 = true) (hp : zpn a b = true) (hmh : zmh a = true) (hv : zvq a v = true) (ha : a < 283) (h : zcl C Bn Bs a b k v X (pc + 3) ls st M) : X pc ls st M := by
  have h0 := h
  subst hX
  intro H locs lsA cells slots I
  have c1 : cells + n0 = zn M := I.2.2.2.2.1
  have c2 : slots + s0 = zsl M := I.2.2.2.2.2.1
  obtain ⟨q1, q2, q3, q4, Q, hQ, hk⟩ := zcl_x hv rfl hBn hBs h0 (by rw [hBn]; exact I.2.2.2.2.2.2.1) (by rw [hBs]; exact I.2.2.2.2.2.2.2.1)
  have hM := hC a M _ Q ha hQ
  have hlen : ((st.take b).reverse.map (zcv H0.size sv)).length = b := by
    rw [List.length_map, List.length_reverse, List.length_take]; omega
  have hr : va_Run p l e R s m args below meth c H locs cells slots (zalc a).1 (zalc a).2 (F0 m pc lsA (st.map (zcv H0.size sv))) ((st.drop b).map (zcv H0.size sv)) (zQc D H0 sv dA Q ((st.take b).reverse.map (zcv H0.size sv)).toArray) (fun q => H0.size ≤ q) := by
    rcases hm with hm | hm
    · exact va_runS ⟨K.1, K.2.1, K.2.2.1, zK_own K, zK_ts K⟩ hM ⟨zcallB ha K hR1 hR2 hm rfl rfl hp hmh, zK_ts K _ (zmw1 (zmq_in hm).2.2)⟩ (zpre K I.1) rfl hlen (by show lsA.size = _; exact I.2.2.1.1) (zsplit q1) (zroom K q2) hd ⟨by omega, by omega⟩
    · exact va_runSN ⟨K.1, K.2.1, K.2.2.1, zK_own K, zK_ts K⟩ hM ⟨zcallN ha K hR1 hR2 hm rfl hp hmh, zK_ts K _ (zmw2 (zmq_in hm).2.2), trivial⟩ (zpre K I.1) rfl hlen (by show lsA.size = _; exact I.2.2.1.1) (zsplit q1) (zroom K q2) hd ⟨by omega, by omega⟩
  refine zgo_on hr I.2.1 fun M' r H1 locs1 hQ' hr' hl' => ?_
  obtain ⟨z1, z2, z3⟩ := hk M' r hQ'
  rw [zback]
  exact z3 H1 locs1 lsA _ _ (zinv_call I hr' hl' z1 z2 (by omega) (by omega))
theorem zs_special (hX : X = zXW D H0 sv dA mi n0 s0 p l e R s m args below meth c Qf) (K : zctx D H0 xs sv dA mi p s m args meth c) (hBn : Bn = n0 + R.cells) (hBs : Bs = s0 + R.slots) (hR1 : d + 1 ≤ R.frames) (hR2 : 40 * (d + 1) ≤ R.locals) (hC : ∀ a M as Q, a < 283 → C a M as Q → zmet l D H0 xs sv dA d a M as Q) (hd : decode (zbs mi) pc = .ok (.invokespecial i, 3)) (hb1 : 1 ≤ b) (hm : zmq (zoc mi) i a 3 = true ∨ zmq (zoc mi) i a 4 = true) (hp : zpn a (b - 1) = true) (hmh : zmh a = true) (hv : zvq a v = true) (ha : a < 283) (h : zsr (st.getD (b - 1) .null) (zcl C Bn Bs a b k v X (pc + 3) ls st M)) : X pc ls st M := by
  obtain ⟨h0, q, hq⟩ := zsr_e h
  subst hX
  intro H locs lsA cells slots I
  have c1 : cells + n0 = zn M := I.2.2.2.2.1
  have c2 : slots + s0 = zsl M := I.2.2.2.2.2.1
  obtain ⟨q1, q2, q3, q4, Q, hQ, hk⟩ := zcl_x hv rfl hBn hBs h0 (by rw [hBn]; exact I.2.2.2.2.2.2.1) (by rw [hBs]; exact I.2.2.2.2.2.2.2.1)
  have hM := hC a M _ Q ha hQ
  have hlen : ((st.take (b - 1)).reverse.map (zcv H0.size sv)).length = b - 1 := by
    rw [List.length_map, List.length_reverse, List.length_take]; omega
  have hcv : zcv H0.size sv (st.getD (b - 1) .null) = .ref (H0.size + q) := by rw [hq]; rfl
  have has : (st.take b).reverse.map (zcv H0.size sv) = .ref (H0.size + q) :: (st.take (b - 1)).reverse.map (zcv H0.size sv) := by
    rw [ztake hb1 q1, List.map_cons, hcv]
  have hP := zpre (xs := xs) (as := (st.take b).reverse) K I.1
  rw [has] at hP
  have hr : va_Run p l e R s m args below meth c H locs cells slots (zalc a).1 (zalc a).2 (F0 m pc lsA (st.map (zcv H0.size sv))) ((st.drop b).map (zcv H0.size sv)) (zQc D H0 sv dA Q (Value.ref (H0.size + q) :: (st.take (b - 1)).reverse.map (zcv H0.size sv)).toArray) (fun q => H0.size ≤ q) := by
    rcases hm with hm | hm
    · obtain ⟨w1, w2, w3⟩ := zmw3 (zmq_in hm).2.2
      have hB := zcallB ha K hR1 hR2 hm rfl rfl hp hmh
      rw [w3] at hB
      exact va_runI ⟨K.1, K.2.1, K.2.2.1, zK_own K, zK_ts K⟩ hM ⟨hB, w2, zK_ts K _ w1⟩ hP rfl hlen (by show lsA.size = _; exact I.2.2.1.1) (zstack hb1 q1 hcv) (zroom K q2) hd ⟨by omega, by omega⟩
    · obtain ⟨w1, w2, w3⟩ := zmw4 (zmq_in hm).2.2
      have hB := zcallN ha K hR1 hR2 hm rfl hp hmh
      rw [w3] at hB
      exact va_runIN ⟨K.1, K.2.1, K.2.2.1, zK_own K, zK_ts K⟩ hM ⟨hB, w2, zK_ts K _ w1⟩ hP rfl hlen (by show lsA.size = _; exact I.2.2.1.1) (zstack hb1 q1 hcv) (zroom K q2) hd ⟨by omega, by omega⟩
  refine zgo_on hr I.2.1 fun M' r H1 locs1 hQ' hr' hl' => ?_
  obtain ⟨z1, z2, z3⟩ := hk M' r hQ'
  rw [zback]
  exact z3 H1 locs1 lsA _ _ (zinv_call I hr' hl' z1 z2 (by omega) (by omega))
theorem zs_virtual (hX : X = zXW D H0 sv dA mi n0 s0 p l e R s m args below meth c Qf) (K : zctx D H0 xs sv dA mi p s m args meth c) (hBn : Bn = n0 + R.cells) (hBs : Bs = s0 + R.slots) (hR1 : d + 1 ≤ R.frames) (hR2 : 40 * (d + 1) ≤ R.locals) (hC : ∀ a M as Q, a < 283 → C a M as Q → zmet l D H0 xs sv dA d a M as Q) (hd : decode (zbs mi) pc = .ok (.invokevirtual i, 3)) {o : Nat} (ho : zoc a = o) (hb1 : 1 ≤ b) (hm : zmq (zoc mi) i a 0 = true) (hp : zpn a (b - 1) = true) (hmh : zmh a = true) (hv : zvq a v = true) (ha : a < 283) (h : zvr (st.getD (b - 1) .null) M o (zcl C Bn Bs a b k v X (pc + 3) ls st M)) : X pc ls st M := by
  obtain ⟨h0, hrc⟩ := zvr_e h
  subst hX
  intro H locs lsA cells slots I
  have c1 : cells + n0 = zn M := I.2.2.2.2.1
  have c2 : slots + s0 = zsl M := I.2.2.2.2.2.1
  obtain ⟨q1, q2, q3, q4, Q, hQ, hk⟩ := zcl_x hv rfl hBn hBs h0 (by rw [hBn]; exact I.2.2.2.2.2.2.1) (by rw [hBs]; exact I.2.2.2.2.2.2.2.1)
  have hM := hC a M _ Q ha hQ
  have hlen : ((st.take (b - 1)).reverse.map (zcv H0.size sv)).length = b - 1 := by
    rw [List.length_map, List.length_reverse, List.length_take]; omega
  have hcl : (zy a).cls = zcn.getD o "" := by rw [(zplain ha).2.1, ← ho]; rfl
  obtain ⟨rb, hcv, hrecv⟩ : ∃ rb, zcv H0.size sv (st.getD (b - 1) .null) = .ref rb ∧ ∃ cellB : Cell, H[rb]? = some cellB ∧ cellB.vm.isStatics = false ∧ s.vm.findClass (zy a).cls = some cellB.cls := by
    rcases hrc with ⟨q, e1, hS⟩ | ⟨t, e1, ht, e2⟩
    · refine ⟨H0.size + q, by rw [e1]; rfl, ?_⟩
      have ho9 : o < 9 := I.1.2.2.2.1 q o hS
      obtain ⟨r, -, cell, g1, g2, g3, -⟩ := zrep_o I.1 hS
      refine ⟨cell, g1, by rw [g3]; rfl, ?_⟩
      rw [g2, hcl, zcn_9 o ho9]
      exact ((zK_env K).1.1 o _ (zcls_get ho9)).2.1
    · obtain ⟨t0, et, hO, -⟩ := (zK_env K).2.2.2.2.2.2.2.2.2.2 t ht
      refine ⟨t0, by rw [e1]; exact et, ?_⟩
      obtain ⟨cell, g1, g2, g3, -⟩ := (hO.kept (zK_kept K)).kept (zI_S K I).2.1
      refine ⟨cell, g1, g2, ?_⟩
      rw [hcl, e2]
      exact g3
  have has : (st.take b).reverse.map (zcv H0.size sv) = .ref rb :: (st.take (b - 1)).reverse.map (zcv H0.size sv) := by
    rw [ztake hb1 q1, List.map_cons, hcv]
  have hP := zpre (xs := xs) (as := (st.take b).reverse) K I.1
  rw [has] at hP
  obtain ⟨w1, w2⟩ := zmw0 (zmq_in hm).2.2
  refine zgo_on (va_runV ⟨K.1, K.2.1, K.2.2.1, zK_own K, zK_ts K⟩ hM ⟨zcallB ha K hR1 hR2 hm rfl rfl hp hmh, zK_ts K _ w1, zK_ts K _ w2⟩ ⟨hP.1, hrecv, hP.2⟩ rfl hlen (by show lsA.size = _; exact I.2.2.1.1) (zstack hb1 q1 hcv) (zroom K q2) hd ⟨by omega, by omega⟩) I.2.1 fun M' r H1 locs1 hQ' hr' hl' => ?_
  obtain ⟨z1, z2, z3⟩ := hk M' r hQ'
  rw [zback]
  exact z3 H1 locs1 lsA _ _ (zinv_call I hr' hl' z1 z2 (by omega) (by omega))
end SND6
/-- what the returns of a method must do -/
def zreti (D : va_G) (H0 : Heap) (sv : Nat → Value) (dA : Nat → ClassId) (mi n0 s0 : Nat) (p : Program) (l : Launch) (e : Env) (R : Room) (s : State) (m : MethodId) (args : Array Value) (below : List Frame) (meth : Method) (c : Code) (Qf : State → Prop) (Q : zQ) : Prop :=
  (∀ (x : Int32) (M : zM) (pc : Nat) (ty : FieldType) (H : Heap) (locs : List Loc) (lsA : Array Slot) (cells slots : Nat) (ls : List Value), Q M (some (.int x)) → zinv D H0 sv dA mi n0 s0 R s H locs lsA cells slots ls M → decode (zbs mi) pc = .ok (.ireturn, 1) → zrt mi = some ty → narrow ty (.int x) = .int x → W p l e R s m args below meth c H locs cells slots Qf (F0 m pc lsA [.int x])) ∧
  (∀ (x : Nat) (M : zM) (pc : Nat) (cn : String) (H : Heap) (locs : List Loc) (lsA : Array Slot) (cells slots : Nat) (ls : List Value), Q M (some (.ref x)) → zinv D H0 sv dA mi n0 s0 R s H locs lsA cells slots ls M → decode (zbs mi) pc = .ok (.areturn, 1) → zrt mi = some (.object cn) → W p l e R s m args below meth c H locs cells slots Qf (F0 m pc lsA [.ref (H0.size + x)])) ∧
  (∀ (M : zM) (pc : Nat) (H : Heap) (locs : List Loc) (lsA : Array Slot) (cells slots : Nat) (ls : List Value), Q M none → zinv D H0 sv dA mi n0 s0 R s H locs lsA cells slots ls M → decode (zbs mi) pc = .ok (.return_, 1) → zrt mi = none → W p l e R s m args below meth c H locs cells slots Qf (F0 m pc lsA []))
