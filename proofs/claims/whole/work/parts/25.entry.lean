/-! THE CLAIM OUT OF ONE WALK OF THE LAW'S BODY. Your part is whole_start (and what it stands on); all else here is the same for every law, but numbers. -/
def R_law : String := "BowHouseLaw"
def lw_P (b : Addr) (xs : List Int32) (args : Array Value) (s : State) : Prop := args = #[.ref b] ∧ s.IntsAt b xs ∧ xs.length ≤ 3072 ∧ (Jvm.Cond.and given_1 narrow_1).before args s = true
def lw_Q (_ : Array Value) (s : State) (o : Outcome) (t : State) : Prop := o = .returned (some (.int 1)) ∧ Framed s o t [] 600000 7302250
def lw_Z (below : List Frame) (a : Array Value) (s : State) : State → Prop := fun t => ∃ o, t.status = .running ∧ Ended t below o ∧ lw_Q a s o t
/-- the law's own end, with 1 on the stack, nothing written that was there before, its room as the claim has it -/
theorem lw_ret {p : Program} {l : Launch} {e : Env} {s : State} {m : MethodId} {below : List Frame} {meth : Method} {c : Code} {b : Nat} (hx : p.tables.exec = Jvm.exec) (hb : c.code = code) (hr : meth.sig.returnType = ret) (hlocks : meth.locks = false) {pc : Nat} {H : Heap} {ls : Array Slot} (hdg : decode code pc = .ok (.ireturn, 1)) : W p l e room_1 s m #[Value.ref b] below meth c H [] 600000 7302250 (lw_Z below #[Value.ref b] s) (F0 m pc ls [.int 1]) := by
  intro T hT X
  obtain ⟨fs, hret, hrun, hended, hW, hframe⟩ := X.leave (v := some (.int 1)) (hlocks := hlocks) (fun h => by rw [hr] at h; cases h)
  have hmeth' : T.vm.method? m = some meth := X.method'
  refine ⟨T.setFrames fs, ?_, .returned (some (.int 1)), hrun, hended, rfl, ⟨_, rfl⟩, hW, hframe⟩
  jvm_step X.here [X.here.top, hx, hb, hdg, hmeth', hr, ret, narrow_b1]
  (try refine ⟨rfl, ?_⟩); (try refine ⟨rfl, ?_⟩)
  first | (intro acts; rw [hret _ acts rfl rfl rfl]) | rw [hret _ _ rfl rfl rfl]
  exact Steps.refl _
/-- what holds at the law's entry: the machine, the code, the tables' words (any of lw_tbl by 'hts w (by decide +kernel)'), the script of L ints xs at the cell b, what the Statement gives of the start (any of its parts by flat_of_before) -/
def lw_At (p : Program) (s : State) (m : MethodId) (meth : Method) (c : Code) (b L : Nat) (xs : Nat → Int32) : Prop :=
  p.tables.exec = Jvm.exec ∧ c.code = code ∧ meth.sig.returnType = ret ∧ c.maxLocals = 4 ∧ s.vm.findClass R_law = some m.cls ∧ (∀ w ∈ lw_tbl, w.before #[Value.ref b] s = true) ∧ va_X b L xs s s.heap ∧ b < s.heap.size ∧ meth.locks = false ∧ (Jvm.Cond.and given_1 narrow_1).before #[Value.ref b] s = true
/-! the law's entry: what the tables and the start say, for the abstract machine -/
def zfc : List Jvm.Cond := flatC (Jvm.Cond.and given_1 narrow_1)
def zstr (i : Nat) : Term := match i with
  | 0 => .string RX5 29
  | _ => .string RX5 171
def zsl2 : List Nat := [144, 11]
def zsb2 : List (List Int32) := [zwords, zsigns]
set_option maxRecDepth 100000 in
theorem zfc_1 : zfc[4]? = some (.eq (.static RJ0 "COMPACT_STRINGS" "Z") (.int 1)) ∧ zfc[5]? = some (.isRef (.static RJ3 "SIOOBE_FORMATTER" "Ljava/util/function/BiFunction;")) ∧ zfc[10]? = some (.arrayOf (.static RX7 "FACTORIALS" "[I") .int) ∧ zfc[11]? = some (.eq (.length (.static RX7 "FACTORIALS" "[I")) (.int (Int32.ofNat 8))) ∧ (∀ j, j < 8 → zfc[12 + j]? = some (.eq (.elem (.static RX7 "FACTORIALS" "[I") (.int (Int32.ofNat j))) (.int (zfacts.getD j 0)))) := by decide +kernel
set_option maxRecDepth 100000 in
theorem zfc_2 : (∀ i, i < 2 → zfc[20 + 148 * i]? = some (.exactly (zstr i) "java/lang/String") ∧ zfc[21 + 148 * i]? = some (.eq (.field (zstr i) "java/lang/String" "coder" "B") (.int 0)) ∧ zfc[22 + 148 * i]? = some (.arrayOf (.field (zstr i) "java/lang/String" "value" "[B") .byte) ∧ zfc[23 + 148 * i]? = some (.eq (.length (.field (zstr i) "java/lang/String" "value" "[B")) (.int (Int32.ofNat (zsl2.getD i 0))))) ∧ zfc[183]? = some (.not (.eq (zstr 0) (zstr 1))) := by decide +kernel
set_option maxRecDepth 100000 in
theorem zfc_3 : ∀ i, i < 2 → ∀ j, j < zsl2.getD i 0 → zfc[24 + 148 * i + j]? = some (.eq (.elem (.field (zstr i) "java/lang/String" "value" "[B") (.int (Int32.ofNat j))) (.int ((zsb2.getD i []).getD j 0))) := by decide +kernel
set_option maxRecDepth 100000 in
theorem zfc_4 : lw_tbl[131]? = some (.stringRef RX5 29 ztx3) ∧ lw_tbl[528]? = some (.stringRef RX5 171 ztx4) ∧ lw_tbl[141]? = some (.laysStatic RJ0 "COMPACT_STRINGS" "Z") ∧ lw_tbl[149]? = some (.laysStatic RJ3 "SIOOBE_FORMATTER" "Ljava/util/function/BiFunction;") ∧ lw_tbl[895]? = some (.laysStatic RX7 "FACTORIALS" "[I") ∧ lw_tbl[894]? = some (.fieldLinkNest RX4 89 RX7 "FACTORIALS" "[I" RX7) ∧ lw_tbl[366]? = some (.arrayOver (.object RX6)) := by decide +kernel
theorem zfc_in {s : State} {b k : Nat} {q : Jvm.Cond} (h : (Jvm.Cond.and given_1 narrow_1).before #[Value.ref b] s = true) (hk : zfc[k]? = some q) : q.before #[Value.ref b] s = true := flat_of_before _ h q (List.mem_of_getElem? hk)
set_option maxHeartbeats 4000000 in
theorem zenv_start {p : Program} {s : State} {m : MethodId} {meth : Method} {c : Code} {b L : Nat} {xs : Nat → Int32} (C0 : lw_At p s m meth c b L xs) (hL : L ≤ 3072) : ∃ (D : va_G) (sv : Nat → Value) (dA : Nat → ClassId), (∀ k, (sv k).category = 1) ∧ sv 1 = .ref b ∧ zenv D s.heap ((List.range L).map xs) sv dA s := by
  obtain ⟨hx, hb, hr, hml, hown, hts, hX, hbl, hlocks, hgv⟩ := C0
  have hg : ∀ w ∈ zgw, w.before #[Value.ref b] s = true := fun w hw => hts w (List.mem_filter.mp hw).1
  have hA : ∀ a : Nat, a < s.heap.size → ¬ (fun q => s.heap.size ≤ q) a := fun a h z => absurd z (Nat.not_le.mpr h)
  -- the classes
  have hkn : ∀ k, ∃ q : ClassId × (Nat → Nat), k < 9 → u_Kn s (zcls k).1 (zcls k).2.1 (zcls k).2.2 q.1 q.2 := by
    intro k
    by_cases hk : k < 9
    · have hw := List.all_eq_true.mp zcw_b k (List.mem_range.mpr hk)
      simp only [Bool.and_eq_true] at hw
      obtain ⟨cC, iS, h⟩ := u_known (C := (zcls k).1) (T := (zcls k).2.1) (N := (zcls k).2.2) hg (zlay_in k hk) (hg _ (zwd_in hw.1))
      exact ⟨(cC, iS), fun _ => h⟩
    · exact ⟨(0, fun _ => 0), fun h => absurd h hk⟩
  obtain ⟨f, hf⟩ := Classical.axiomOfChoice hkn
  -- the arrays
  have hw := zac_b
  simp only [Bool.and_eq_true] at hw
  obtain ⟨⟨⟨w0, w1⟩, w2⟩, w3⟩ := hw
  obtain ⟨c0, k0, m0, a1, a2, a3⟩ := Cond.arrayClass_spec (hg _ (zwd_in w0))
  obtain ⟨c1, k1, m1, b1, b2, b3⟩ := Cond.arrayClass_spec (hg _ (zwd_in w1))
  obtain ⟨c2, k2, m2, d1, d2, d3⟩ := Cond.arrayClass_spec (hg _ (zwd_in w2))
  obtain ⟨c3, k3, m3, e1, e2, e3⟩ := Cond.arrayClass_spec (hg _ (zwd_in (of_decide_eq_true w3)))
  obtain ⟨z1, z2, z3, z4, z5, z6, z7⟩ := zfc_4
  have hAO : va_AO RX6 s := va_AO.of (hts _ (List.mem_of_getElem? z7))
  obtain ⟨comp, c4, k4, g1, g2, g3, g4, g5⟩ := Cond.arrayOver_spec hAO
  -- the cells that are only read
  obtain ⟨y1, y2, y3, y4, y5⟩ := zfc_1
  obtain ⟨x1, x2⟩ := zfc_2
  have hini : ∀ k, k < 16 → (Cond.initialized (zcn.getD k "")).before #[Value.ref b] s = true := fun k hk => hg _ (zwd_in (List.all_eq_true.mp ziw_b k (List.mem_range.mpr hk)))
  obtain ⟨ft, hft, hFT⟩ := va_Tof (N := 8) (f := fun j => .int (zfacts.getD j 0)) (A := fun q => s.heap.size ≤ q) (by decide) (zfc_in hgv y3) (va_eqt (zfc_in hgv y4)) (fun j hj => va_eqt (zfc_in hgv (y5 j hj))) hA
  obtain ⟨adK, adV, hSt, hev⟩ := vk_Sof (args := #[Value.ref b]) (s := s) (N := 2) (tm := zstr) (len := zsl2) (byt := zsb2) (A := fun q => s.heap.size ≤ q) (fun i hi => by
    match i, hi with
    | 0, _ => decide
    | 1, _ => decide
    | i + 2, h => omega) (fun i hi => zfc_in hgv (x1 i hi).1) (fun i hi => zfc_in hgv (x1 i hi).2.1) (fun i hi => zfc_in hgv (x1 i hi).2.2.1) (fun i hi => zfc_in hgv (x1 i hi).2.2.2) (fun i hi j hj => zfc_in hgv (zfc_3 i hi j hj)) (fun i j hi hj hne => by
    match i, j, hi, hj with
    | 0, 0, _, _ => exact absurd rfl hne
    | 0, 1, _, _ => exact Or.inl (zfc_in hgv x2)
    | 1, 0, _, _ => exact Or.inr (zfc_in hgv x2)
    | 1, 1, _, _ => exact absurd rfl hne
    | i + 2, _, h, _ => omega
    | _, j + 2, _, h => omega) hA
  obtain ⟨sf, hsf, hZf⟩ : ∃ sf : Value, sf.category = 1 ∧ va_Z RJ3 "SIOOBE_FORMATTER" "Ljava/util/function/BiFunction;" sf (fun q => s.heap.size ≤ q) s s.heap := by
    rcases va_Zqof (A := fun q => s.heap.size ≤ q) (hts _ (List.mem_of_getElem? z4)) (hini 15 (by decide)) (zfc_in hgv y2) hA with h | ⟨t, h⟩
    · exact ⟨_, rfl, h⟩
    · exact ⟨_, rfl, h⟩
  have hlen : ((List.range L).map xs).length = L := by rw [List.length_map, List.length_range]
  refine ⟨(fun k => (f k).1, fun k => (f k).2), fun k => match k with
    | 1 => .ref b
    | 2 => .ref ft
    | 3 => .ref (adK 0)
    | 4 => .ref (adK 1)
    | 5 => .ref (adV 0)
    | 6 => .ref (adV 1)
    | 7 => sf
    | _ => .null, fun t => match t with
    | 0 => c0
    | 1 => c1
    | 2 => c2
    | 3 => c3
    | _ => c4, fun k => ?_, rfl, ?_⟩
  · dsimp only
    split <;> first | rfl | exact hsf
  · refine ⟨⟨fun k q hq => ?_, fun k q hq => ?_⟩, fun o i a k hq hk => ?_, va_Nw.of rfl (hts _ (List.mem_of_getElem? z6)), hAO, ⟨_, rfl, vk_R.of (hts _ (List.mem_of_getElem? z1)) (hev 0 (by decide))⟩, ⟨_, rfl, vk_R.of (hts _ (List.mem_of_getElem? z2)) (hev 1 (by decide))⟩, va_Zof (hts _ (List.mem_of_getElem? z3)) (hini 13 (by decide)) (va_eqi (zfc_in hgv y1)) hA, hZf, va_Zof (hts _ (List.mem_of_getElem? z5)) (hini 7 (by decide)) hft hA, fun k t l hk => ?_, fun k hk => ?_⟩
    · have hk : k < 9 := (List.getElem?_eq_some_iff.mp hq).1
      have e := Option.some.inj ((zcls_get hk).symm.trans hq)
      rw [← e]
      exact hf k hk
    · match k, hq with
      | 0, hq => cases hq; exact ⟨fun n z => ⟨fun _ h => (by cases h), k0, a2, m0, a3⟩, a1⟩
      | 1, hq => cases hq; exact ⟨fun n z => ⟨fun _ h => (by cases h), k1, b2, m1, b3⟩, b1⟩
      | 2, hq => cases hq; exact ⟨fun n z => ⟨fun _ h => (by cases h), k2, d2, m2, d3⟩, d1⟩
      | 3, hq => cases hq; exact ⟨fun n z => ⟨fun _ h => (by cases h), k3, e2, m3, e3⟩, e1⟩
      | 4, hq => cases hq; exact ⟨fun n z => ⟨fun _ h => (by cases h), k4, g3, comp, g4⟩, k4, comp, g3, g4, g1, g5⟩
      | k + 5, hq => cases hq
    · have hw := hts _ ((zmq_in hq).1 hk)
      rw [znest_form hk] at hw ⊢
      exact va_Nw.of rfl hw
    · match k, hk with
      | 1, hk =>
        cases hk
        obtain ⟨scr, h1, h2, h3, h4, h5⟩ := hX
        refine ⟨b, rfl, scr, h1, h2, h3, Nat.le_of_eq (by rw [hlen, h4]), by rw [hlen, h4]; try rfl, fun j hj => ?_, hA b hbl⟩
        rw [hlen] at hj
        show _ = some (Value.int (List.getD _ _ _))
        rw [h5 j hj, List.getD_eq_getElem?_getD, List.getElem?_map, List.getElem?_range hj]
        rfl
      | 2, hk => cases hk; exact ⟨ft, rfl, hFT⟩
      | 5, hk => cases hk; exact ⟨_, rfl, (hSt.1 0 (by decide)).2.2.2⟩
      | 6, hk => cases hk; exact ⟨_, rfl, (hSt.1 1 (by decide)).2.2.2⟩
      | 0, hk => cases hk
      | 3, hk => cases hk
      | 4, hk => cases hk
      | k + 7, hk => cases hk
    · rcases hk with rfl | rfl
      · obtain ⟨h1, h2, h3, -⟩ := hSt.1 0 (by decide)
        exact ⟨_, rfl, h1, h3, h2⟩
      · obtain ⟨h1, h2, h3, -⟩ := hSt.1 1 (by decide)
        exact ⟨_, rfl, h1, h3, h2⟩
