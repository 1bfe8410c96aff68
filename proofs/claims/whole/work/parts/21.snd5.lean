/-! calls: a method's contract out of its run -/
def zws (a : Nat) : List Cond := .code (zy a) (zbs a) (znl a) (zrt a) :: zgw
def zrm (d a : Nat) : Room := { frames := d, cells := (zalc a).1, slots := (zalc a).2, locals := 40 * d }
def zPc (D : va_G) (H0 : Heap) (xs : List Int32) (sv : Nat → Value) (dA : Nat → ClassId) (M : zM) (as : List Value) : Array Value → State → Prop := va_Pc (as.map (zcv H0.size sv)) (fun U => zrep D H0 dA M U.heap ∧ zenv D H0 xs sv dA U)
def zQc (D : va_G) (H0 : Heap) (sv : Nat → Value) (dA : Nat → ClassId) (Q : zQ) : Array Value → State → Outcome → State → Prop := fun _ _ o t => ∃ M' r, Q M' r ∧ o = .returned (r.map (zcv H0.size sv)) ∧ zrep D H0 dA M' t.heap
/-- the contract of a call of depth d -/
def zmet (l : Launch) (D : va_G) (H0 : Heap) (xs : List Int32) (sv : Nat → Value) (dA : Nat → ClassId) (d a : Nat) (M : zM) (as : List Value) (Q : zQ) : Prop := Met l (zy a) (zws a) (zrm d a) (zPc D H0 xs sv dA M as) (zQc D H0 sv dA Q) (zalc a).1 (zalc a).2 (fun q => H0.size ≤ q)
section SND5
variable {p : Program} {l : Launch} {e : Env} {R : Room} {s : State} {m : MethodId} {args : Array Value} {below : List Frame} {meth : Method} {c : Code} {Qf : State → Prop}
variable {D : va_G} {H0 : Heap} {xs : List Int32} {sv : Nat → Value} {dA : Nat → ClassId} {mi n0 s0 : Nat} {X : zX}
variable {pc : Nat} {ls st : List Value} {M : zM} {a b : Nat} {v : Value}
theorem zPc_blind {as : List Value} : FrameBlind (zPc D H0 xs sv dA M as) := fun A U g mk h => ⟨h.1, h.2.1, zenv_same (u := U) rfl h.2.2⟩
theorem zcode_in {a : Nat} (ha : a < 283) : Cond.code (zy a) (zbs a) (znl a) (zrt a) ∈ zgw := List.mem_filter.mpr ⟨List.mem_of_getElem? (zca_283 a ha), rfl⟩
theorem zws_good {a : Nat} (ha : a < 283) : GoodIn zgw (zws a) := by
  intro w hw
  rcases List.mem_cons.mp hw with h | h
  · rw [h]
    exact ⟨zcode_in ha, zgw_good (zcode_in ha)⟩
  · exact ⟨h, zgw_good h⟩
theorem zplain {a : Nat} (ha : a < 283) : plainFor (zy a) = true ∧ (zy a).cls = zow a ∧ znl a ≤ 21 := by
  have h := List.all_eq_true.mp zpf_b a (List.mem_range.mpr ha)
  simp only [Bool.and_eq_true, decide_eq_true_eq] at h
  exact ⟨h.1.1, h.1.2, h.2⟩
theorem zini {a : Nat} (ha : a < 283) : Cond.initialized (zy a).cls ∈ zgw := by
  have hz : zoc a < 16 := by
    have : (List.range 283).all (fun a => decide (zoc a < 16)) = true := by decide +kernel
    exact of_decide_eq_true (List.all_eq_true.mp this a (List.mem_range.mpr ha))
  have h := List.all_eq_true.mp ziw_b (zoc a) (List.mem_range.mpr hz)
  rw [(zplain ha).2.1]
  exact zwd_in h
/-- behind a call -/
theorem zgo_on {mc ms : Nat} {lsA : Array Slot} {H : Heap} {locs : List Loc} {cells slots : Nat} {st0 rest : List Value} {A : Array Value} {Q : zQ} (hr : va_Run p l e R s m args below meth c H locs cells slots mc ms (F0 m pc lsA st0) rest (zQc D H0 sv dA Q A) (fun q => H0.size ≤ q)) (hl : ∀ x ∈ locs, H0.size ≤ x.base)
    (kk : ∀ (M' : zM) (r : Option Value) (H1 : Heap) (locs1 : List Loc), Q M' r → zrep D H0 dA M' H1 → (∀ x ∈ locs1, H0.size ≤ x.base) → W p l e R s m args below meth c H1 locs1 (cells + mc) (slots + ms) Qf (F0 m (pc + 3) lsA ((r.map (zcv H0.size sv)).toList ++ rest))) : W p l e R s m args below meth c H locs cells slots Qf (F0 m pc lsA st0) := by
  intro T hT Y
  obtain ⟨v, st₀, t, T', L, h0, Y', hL, e1, e2, ⟨M', r, hQ, hv, hrep⟩, stp⟩ := hr T hT Y
  cases hv
  obtain ⟨t2, a1, b1⟩ := kk M' r T'.heap (locs ++ L) hQ (by rw [e1]; exact hrep) (fun x hx => by
    rcases List.mem_append.mp hx with g | g
    · exact hl x g
    · exact hL x g) T' rfl Y'
  exact ⟨t2, stp t2 a1, b1⟩
theorem zvq_e {a : Nat} {v : Value} (h : zvq a v = true) : (zalc a = (0, 0) ∧ ∀ n, v ≠ .ref n) ∨ ∃ n, v = .ref n ∧ zalc a = (n / 1000000, n % 1000000) := by
  unfold zvq at h
  split at h
  · exact Or.inl ⟨of_decide_eq_true h, fun n hn => by cases hn⟩
  next n => exact Or.inr ⟨n, rfl, of_decide_eq_true h⟩
  · cases h
/-- what a call's continuation says of its end, either sort -/
theorem zanu_x {k n sl np : Nat} {r : List Value} {M' : zM} {o : Option Value} (h : zanu k n sl X np ls r M' o) : zn M' = n ∧ zsl M' = sl ∧ X np ls (o.toList ++ r) M' := by
  unfold zanu at h
  split at h
  · obtain ⟨h1, h2, h3⟩ := h
    cases o with
    | none => exact ⟨h1, h2, h3⟩
    | some w => exact h3.elim
  · obtain ⟨h1, h2, h3⟩ := h
    cases o with
    | none => exact h3.elim
    | some w =>
      cases w <;> first | exact ⟨h1, h2, h3⟩ | exact h3.elim
  · exact h.elim
theorem zans_x {k np : Nat} {F : zF} {r : List Value} {M' : zM} {o : Option Value} (h : zans k F X np ls r M' o) : M'.1 = F ∧ X np ls (o.toList ++ r) M' := by
  unfold zans at h
  split at h
  · obtain ⟨h1, h3⟩ := h
    subst h1
    cases o with
    | none => exact ⟨rfl, h3⟩
    | some w => exact h3.elim
  · obtain ⟨h1, h3⟩ := h
    subst h1
    cases o with
    | none => exact h3.elim
    | some w =>
      cases w <;> first | exact ⟨rfl, h3⟩ | exact h3.elim
  · obtain ⟨h1, h3⟩ := h
    subst h1
    cases o with
    | none => exact h3.elim
    | some w =>
      cases w <;> first | exact ⟨rfl, h3⟩ | exact h3.elim
  · exact h.elim
/-- a call's continuation, either sort: the counts, and the run behind it -/
theorem zcl_x {C : zC} {Bn Bs k : Nat} (hv : zvq a v = true) (hX : X = zXW D H0 sv dA mi n0 s0 p l e R s m args below meth c Qf) (hBn : Bn = n0 + R.cells) (hBs : Bs = s0 + R.slots) (h : zcl C Bn Bs a b k v X (pc + 3) ls st M) (hn : zn M ≤ Bn) (hs : zsl M ≤ Bs) : b ≤ st.length ∧ zcat (st.drop b) ≤ 8 ∧ zn M + (zalc a).1 ≤ Bn ∧ zsl M + (zalc a).2 ≤ Bs ∧ ∃ Q : zQ, C a M (st.take b).reverse Q ∧ ∀ M' o, Q M' o → zn M' = zn M + (zalc a).1 ∧ zsl M' = zsl M + (zalc a).2 ∧ X (pc + 3) ls (o.toList ++ st.drop b) M' := by
  obtain ⟨h1, h2, h⟩ := zcl_e h
  refine ⟨h1, h2, ?_⟩
  rcases h with ⟨mc, ev, g1, g2, g3⟩ | ⟨ev, g3⟩
  · have hz : zalc a = (mc / 1000000, mc % 1000000) := by
      rcases zvq_e hv with ⟨-, q⟩ | ⟨n, q1, q2⟩
      · exact absurd ev (q mc)
      · rw [ev] at q1; cases q1; exact q2
    rw [hz]
    exact ⟨g1, g2, _, g3, fun M' o hq => zanu_x hq⟩
  · have hz : zalc a = (0, 0) := by
      rcases zvq_e hv with ⟨q, -⟩ | ⟨n, q1, -⟩
      · exact q
      · exact absurd q1 (ev n)
    rw [hz]
    refine ⟨hn, hs, _, g3, fun M' o hq => ?_⟩
    obtain ⟨q1, q2⟩ := zans_x hq
    refine ⟨?_, ?_, q2⟩
    · show M'.1.1 = M.1.1 + 0
      rw [q1]; rfl
    · show M'.1.2.1 = M.1.2.1 + 0
      rw [q1]; rfl
theorem zinv_call {H H1 : Heap} {locs locs1 : List Loc} {lsA : Array Slot} {cells slots mc ms : Nat} {M' : zM} (I : zinv D H0 sv dA mi n0 s0 R s H locs lsA cells slots ls M) (hr : zrep D H0 dA M' H1) (hl : ∀ x ∈ locs1, H0.size ≤ x.base) (hn : zn M' = zn M + mc) (hs : zsl M' = zsl M + ms) (b1 : zn M + mc ≤ n0 + R.cells) (b2 : zsl M + ms ≤ s0 + R.slots) : zinv D H0 sv dA mi n0 s0 R s H1 locs1 lsA (cells + mc) (slots + ms) ls M' := by
  obtain ⟨h1, h2, h3, h4, h5, h6, h7, h8, h9⟩ := I
  refine ⟨hr, hl, h3, h4, by omega, by omega, by omega, by omega, ?_⟩
  have := hr.1
  have := h1.1
  omega
theorem zsplit {b : Nat} (h : b ≤ st.length) : st.map (zcv H0.size sv) = (((st.take b).reverse).map (zcv H0.size sv)).reverse ++ (st.drop b).map (zcv H0.size sv) := by
  rw [← List.map_reverse, List.reverse_reverse, ← List.map_append, List.take_append_drop]
theorem zroom (K : zctx D H0 xs sv dA mi p s m args meth c) {lsA : Array Slot} {st0 r : List Value} (h : zcat r ≤ 8) : 2 * (F0 m pc lsA st0).monitorRoom + (((r.map (zcv H0.size sv)).map fun v => v.category).sum) ≤ 8 := by
  rw [zcat_map (zK_sv K)]
  show 2 * 0 + _ ≤ 8
  omega
theorem zpay {a : Nat} (ha : a < 283) (K : zctx D H0 xs sv dA mi p s m args meth c) : ∀ w ∈ zws a, ∀ (a' : Array Value) (U : State), s.WarmedH U.vm → w.before a' U = true := pay_in (zK_ts K) (zws_good ha)
theorem zparam {a n : Nat} (h : zpn a n = true) : ∀ sig, parseMethodDescriptor (zy a).desc = some sig → n = sig.parameters.length := by
  intro sig hs
  have := of_decide_eq_true h
  rw [hs] at this
  exact (Option.some.inj this).symm
theorem zmhs {a : Nat} (h : zmh a = true) : (zy a).cls ≠ "java/lang/invoke/MethodHandle" ∧ (zy a).cls ≠ "java/lang/invoke/VarHandle" := by
  unfold zmh at h
  simp only [Bool.and_eq_true, decide_eq_true_eq] at h
  exact h
/-- the words of a call -/
theorem zcallB {d a i k n : Nat} (ha : a < 283) (K : zctx D H0 xs sv dA mi p s m args meth c) (hR1 : d + 1 ≤ R.frames) (hR2 : 40 * (d + 1) ≤ R.locals) (hm : zmq (zoc mi) i a k = true) (hk : zml (zoc mi) i a k = .methodLink (zow mi) i (zy a)) (hk2 : znestk k = false) (hp : zpn a n = true) (hmh : zmh a = true) : CallB R s args (zow mi) i (zy a) (zbs a) (znl a) (zrt a) (zws a) (zrm d a) (zalc a).1 (zalc a).2 n := by
  have hl := zK_ts K _ ((zmq_in hm).2.1 hk2)
  rw [hk] at hl
  have h21 := (zplain ha).2.2
  refine ⟨rfl, rfl, hR1, ?_, zpay ha K, List.mem_cons_self, zK_ts K _ (zcode_in ha), zK_ts K _ (zini ha), zmhs hmh, zparam hp, hl⟩
  show 8 + (znl a + 11) + 40 * d ≤ R.locals
  omega
theorem zcallN {d a i k n : Nat} (ha : a < 283) (K : zctx D H0 xs sv dA mi p s m args meth c) (hR1 : d + 1 ≤ R.frames) (hR2 : 40 * (d + 1) ≤ R.locals) (hm : zmq (zoc mi) i a k = true) (hk2 : znestk k = true) (hp : zpn a n = true) (hmh : zmh a = true) : va_CN R s args (zow mi) i (zy a) RX7 (zbs a) (znl a) (zrt a) (zws a) (zrm d a) (zalc a).1 (zalc a).2 n := by
  have hl := (zK_env K).2.1 _ _ _ _ hm hk2
  rw [znest_form hk2] at hl
  have h21 := (zplain ha).2.2
  refine ⟨⟨rfl, rfl, hR1, ?_, zpay ha K, List.mem_cons_self⟩, zK_ts K _ (zcode_in ha), zK_ts K _ (zini ha), zmhs hmh, zparam hp, va_Nw.use rfl hl⟩
  show 8 + (znl a + 11) + 40 * d ≤ R.locals
  omega
theorem zpre (K : zctx D H0 xs sv dA mi p s m args meth c) {H : Heap} {as : List Value} (hr : zrep D H0 dA M H) : PreS s H (zPc D H0 xs sv dA M as) (as.map (zcv H0.size sv)) := ⟨zPc_blind, fun U hU hW => ⟨rfl, by rw [hU]; exact hr, zenv_warm hW (zK_env K)⟩⟩
end SND5
