/-! one step: new cells, constants, calls, returns -/
section SND4
variable {p : Program} {l : Launch} {e : Env} {R : Room} {s : State} {m : MethodId} {args : Array Value} {below : List Frame} {meth : Method} {c : Code} {Qf : State → Prop}
variable {D : va_G} {H0 : Heap} {xs : List Int32} {sv : Nat → Value} {dA : Nat → ClassId} {mi n0 s0 : Nat} {X : zX}
variable {pc : Nat} {ls st : List Value} {M : zM} {a b : Nat} {v : Value}
theorem znew_cell {sh : Nat ⊕ (Nat × Nat)} {N x z : Nat} (h : x ≠ zn M) : zcell z dA (znew M sh N) x = zcell z dA M x := by
  have e0 : zS (znew M sh N) x = zS M x := if_neg h
  have e1 : (znew M sh N).2.1 x = M.2.1 x := by
    funext j
    exact if_neg h
  have e2 : (znew M sh N).2.2 x = M.2.2 x := by
    funext j
    exact if_neg h
  have e3 : (znew M sh N).1.2.2.2 x = M.1.2.2.2 x := by
    funext j
    exact if_neg h
  unfold zcell
  rw [e0]
  unfold zfs zfv zcon zI zR zL
  rw [e1, e2, e3]
theorem znew_S {sh : Nat ⊕ (Nat × Nat)} {N : Nat} : zS (znew M sh N) (zn M) = sh := if_pos rfl
theorem znew_I {sh : Nat ⊕ (Nat × Nat)} {N j : Nat} : zI (znew M sh N) (zn M) j = 0 := if_pos rfl
theorem znew_L {sh : Nat ⊕ (Nat × Nat)} {N j : Nat} : zL (znew M sh N) (zn M) j = 0 := if_pos rfl
theorem znew_R {sh : Nat ⊕ (Nat × Nat)} {N j : Nat} : zR (znew M sh N) (zn M) j = none := if_pos rfl
theorem zrep_new {H H1 : Heap} {sh : Nat ⊕ (Nat × Nat)} {N : Nat} (hr : zrep D H0 dA M H) (hsh : ∀ ci, sh = .inl ci → ci < 9) (hz : H1.size = H.size + 1) (ho : ∀ q, q < H.size → H1[q]? = H[q]?) (ha : va_at D vwCl (H0.size + zn M, zcell H0.size dA (znew M sh N) (zn M)) H1) : zrep D H0 dA (znew M sh N) H1 := by
  obtain ⟨h1, h2, h3, h4, h5⟩ := hr
  refine ⟨by rw [hz, h1]; rfl, fun q hq => (ho q (by omega)).trans (h2 q hq), fun x hx => ?_, fun x ci hx => ?_, fun x hx => ?_⟩
  · have hx' : zn M + 1 ≤ x := hx
    show (if x = M.1.1 then sh else M.1.2.2.1 x) = _
    rw [if_neg (by show ¬ x = zn M; omega)]
    exact h3 x (by omega)
  · by_cases e : x = zn M
    · subst e
      rw [znew_S] at hx
      exact hsh ci hx
    · exact h4 x ci (by rw [← hx]; exact (if_neg e).symm)
  · have hx' : x < zn M + 1 := hx
    by_cases e : x = zn M
    · subst e; exact ha
    · rw [znew_cell e]
      exact (h5 x (by omega)).kept (ho _ (by rw [h1]; show H0.size + x < _; omega))
theorem zinv_new {H H1 : Heap} {locs : List Loc} {lsA : Array Slot} {cells slots N : Nat} {sh : Nat ⊕ (Nat × Nat)} (I : zinv D H0 sv dA mi n0 s0 R s H locs lsA cells slots ls M) (hr : zrep D H0 dA (znew M sh N) H1) (hz : H1.size = H.size + 1) (b1 : zn M + 1 ≤ n0 + R.cells) (b2 : zsl M + N ≤ s0 + R.slots) : zinv D H0 sv dA mi n0 s0 R s H1 locs lsA (cells + 1) (slots + N) ls (znew M sh N) := by
  obtain ⟨-, h2, h3, h4, h5, h6, h7, h8, h9⟩ := I
  refine ⟨hr, h2, h3, h4, ?_, ?_, b1, b2, by omega⟩
  · show cells + 1 + n0 = zn M + 1
    omega
  · show slots + N + s0 = zsl M + N
    omega
theorem zs_new (hX : X = zXW D H0 sv dA mi n0 s0 p l e R s m args below meth c Qf) (K : zctx D H0 xs sv dA mi p s m args meth c) {i Bn Bs : Nat} (hBn : Bn = n0 + R.cells) (hBs : Bs = s0 + R.slots) (hd : decode (zbs mi) pc = .ok (.new i, 3)) (hq : zcq (zoc mi) i a = true) (ha : a < 9) (hb : b = (zcls a).2.2) (h : znw Bn Bs a b X (pc + 3) ls st M) : X pc ls st M := by
  subst hX hb
  obtain ⟨b1, b2, h⟩ := h
  intro H locs lsA cells slots I
  have hts := zK_ts K
  have hE := (zK_env K).1
  have hw := List.all_eq_true.mp zcw_b a (List.mem_range.mpr ha)
  simp only [Bool.and_eq_true] at hw
  have hKn := hE.1 a _ (zcls_get ha)
  have c1 : cells + n0 = zn M := I.2.2.2.2.1
  have c2 : slots + s0 = zsl M := I.2.2.2.2.2.1
  refine W.newcK K.1 K.2.1 (zK_own K) (hts _ (zcq_in hq)) (hts _ (zwd_in hw.1)) (hts _ (zwd_in hw.2)) rfl hd (by omega) (by omega) hKn.2.1 I.1.1 fun H1 kC hkC e1 e2 e3 => ?_
  have hr : zrep D H0 dA (znew M (.inl a) (zcls a).2.2) H1 := by
    refine zrep_new I.1 (fun ci h => by cases h; exact ha) (by rw [e2, I.1.1]) (fun q hq => e3 q (by rw [← I.1.1]; exact hq)) ?_
    rw [zcell_o znew_S]
    refine ⟨_, zcls_get ha, (u_born (zTy a) hts (zlay_in a ha) hKn hkC e1 (zty_ok a ha)).to fun j hj => ?_⟩
    obtain ⟨-, -, -, t1, tf, td⟩ := zTy_ok a ha j hj
    show _ = (zfs H0.size (znew M (.inl a) (zcls a).2.2) (zn M) a).getD j .null
    rw [List.getD_eq_getElem?_getD, zfs_get hj]
    show _ = zfv _ _ _ _ _
    unfold zfv
    rw [znew_R, znew_I, znew_L]
    generalize zTy a j = ty at *
    cases ty <;> first | rfl | exact absurd rfl tf | exact absurd rfl td
  exact h H1 locs lsA (cells + 1) (slots + (zcls a).2.2) (zinv_new I hr (by rw [e2, I.1.1]) (by omega) (by omega))
theorem zs_newarray (hX : X = zXW D H0 sv dA mi n0 s0 p l e R s m args below meth c Qf) (K : zctx D H0 xs sv dA mi p s m args meth c) {Bn Bs : Nat} {t : ArrayType} (hBn : Bn = n0 + R.cells) (hBs : Bs = s0 + R.slots) (hd : decode (zbs mi) pc = .ok (.newarray t, 2)) (ht : (a = 0 ∧ t = .int) ∨ (a = 1 ∧ t = .byte) ∨ (a = 2 ∧ t = .boolean) ∨ (a = 3 ∧ t = .long)) (h : zna Bn Bs a X (pc + 2) ls st M) : X pc ls st M := by
  subst hX
  obtain ⟨k, r, rfl, k1, k2, b1, b2, h⟩ := zna_e h
  intro H locs lsA cells slots I
  have hts := zK_ts K
  have hE := (zK_env K).1
  have hw := zac_b
  simp only [Bool.and_eq_true] at hw
  obtain ⟨⟨⟨w0, w1⟩, w2⟩, w3⟩ := hw
  have c1 : cells + n0 = zn M := I.2.2.2.2.1
  have c2 : slots + s0 = zsl M := I.2.2.2.2.2.1
  have harr : (Cond.arrayClass (newarray.typeOf t)).before args s = true := by
    rcases ht with ⟨-, rfl⟩ | ⟨-, rfl⟩ | ⟨-, rfl⟩ | ⟨-, rfl⟩
    · exact hts _ (zwd_in w0)
    · exact hts _ (zwd_in w1)
    · exact hts _ (zwd_in w2)
    · exact hts _ (zwd_in (of_decide_eq_true w3))
  have hby : k.toNatClampNeg * componentBytes (newarray.typeOf t) ≤ 536870912 := by
    have : componentBytes (newarray.typeOf t) ≤ 8 := by cases t <;> decide
    calc _ ≤ 100000 * 8 := Nat.mul_le_mul k2 this
      _ ≤ _ := by decide
  refine va_newaK K.1 K.2.1 harr rfl hd rfl k1 rfl hby (by omega) (by omega) I.1.1 fun H1 cA e1 e2 e3 e4 e5 => ?_
  have hcA : cA = dA a := by
    rcases ht with ⟨rfl, rfl⟩ | ⟨rfl, rfl⟩ | ⟨rfl, rfl⟩ | ⟨rfl, rfl⟩
    · exact Option.some.inj (e5.symm.trans (hE.2 0 _ rfl).2)
    · exact Option.some.inj (e5.symm.trans (hE.2 1 _ rfl).2)
    · exact Option.some.inj (e5.symm.trans (hE.2 2 _ rfl).2)
    · exact Option.some.inj (e5.symm.trans (hE.2 3 _ rfl).2)
  have hr : zrep D H0 dA (znew M (.inr (a, k.toNatClampNeg)) k.toNatClampNeg) H1 := by
    refine zrep_new I.1 (fun ci h => by cases h) (by rw [e2, I.1.1]) (fun q hq => e3 q (by rw [← I.1.1]; exact hq)) ?_
    rw [zcell_a znew_S]
    show H1[H0.size + zn M]? = some (vp_cell (dA a) (k.toNatClampNeg, zcon _ _ _ _))
    rw [e1, hcA]
    have hI : zI (znew M (.inr (a, k.toNatClampNeg)) k.toNatClampNeg) (zn M) = fun _ => 0 := funext fun j => znew_I
    have hL : zL (znew M (.inr (a, k.toNatClampNeg)) k.toNatClampNeg) (zn M) = fun _ => 0 := funext fun j => znew_L
    unfold zcon
    rw [hI, hL]
    rcases ht with ⟨rfl, rfl⟩ | ⟨rfl, rfl⟩ | ⟨rfl, rfl⟩ | ⟨rfl, rfl⟩ <;> rfl
  have hw := h H1 locs lsA (cells + 1) (slots + k.toNatClampNeg) (zinv_new I hr (by rw [e2, I.1.1]) (by omega) (by omega))
  exact hw
theorem zs_anewarray (hX : X = zXW D H0 sv dA mi n0 s0 p l e R s m args below meth c Qf) (K : zctx D H0 xs sv dA mi p s m args meth c) {i Bn Bs : Nat} (hBn : Bn = n0 + R.cells) (hBs : Bs = s0 + R.slots) (hd : decode (zbs mi) pc = .ok (.anewarray i, 3)) (hq : zcq (zoc mi) i 6 = true) (h : zna Bn Bs 4 X (pc + 3) ls st M) : X pc ls st M := by
  subst hX
  obtain ⟨k, r, rfl, k1, k2, b1, b2, h⟩ := zna_e h
  intro H locs lsA cells slots I
  have hE := (zK_env K).1
  have c1 : cells + n0 = zn M := I.2.2.2.2.1
  have c2 : slots + s0 = zsl M := I.2.2.2.2.2.1
  refine W.anew K.1 K.2.1 (zK_own K) (zK_ts K _ (zcq_in hq)) (va_AO.use (zK_env K).2.2.2.1) rfl hd rfl k1 (by omega) (by omega) (by omega) fun cA kA comp f1 f2 f3 f4 => ?_
  obtain ⟨-, -, -, -, -, g5⟩ := (hE.2 4 _ rfl).2
  have hcA : cA = dA 4 := Option.some.inj (f1.symm.trans g5)
  generalize hH1 : H.push ({ cls := cA, slots := Array.replicate k.toNatClampNeg .null, vm := .none } : Cell) = H1
  have e2 : H1.size = H.size + 1 := by rw [← hH1, Array.size_push]
  have e1 : H1[H.size]? = some (arrV cA k.toNatClampNeg (fun _ => .null)) := by rw [← hH1, Array.getElem?_push_size, ← arrV_new]
  have e3 : ∀ q : Nat, q < H.size → H1[q]? = H[q]? := fun q hq => by rw [← hH1, Array.getElem?_push, if_neg (Nat.ne_of_lt hq)]
  have hr : zrep D H0 dA (znew M (.inr (4, k.toNatClampNeg)) k.toNatClampNeg) H1 := by
    refine zrep_new I.1 (fun ci h => by cases h) e2 e3 ?_
    rw [zcell_a znew_S]
    show H1[H0.size + zn M]? = some (vp_cell (dA 4) (k.toNatClampNeg, .inr (.inr (.inr (.inr (fun j => Option.map _ (zR (znew M _ _) (zn M) j)))))))
    rw [← I.1.1, e1, hcA]
    have hz : (fun j => Option.map (fun q => H0.size + q) (zR (znew M (.inr (4, k.toNatClampNeg)) k.toNatClampNeg) (zn M) j)) = fun _ => none := funext fun j => by rw [znew_R]; rfl
    rw [hz]
    rfl
  have hw := h H1 locs lsA (cells + 1) (slots + k.toNatClampNeg) (zinv_new I hr e2 (by omega) (by omega))
  show W p l e R s m args below meth c H1 locs (cells + 1) (slots + k.toNatClampNeg) Qf (F0 m (pc + 3) lsA (.ref H.size :: r.map (zcv H0.size sv)))
  rw [I.1.1]
  exact hw
theorem zs_objinit (hX : X = zXW D H0 sv dA mi n0 s0 p l e R s m args below meth c Qf) (K : zctx D H0 xs sv dA mi p s m args meth c) {i : Nat} (hR1 : 1 ≤ R.frames) (hR2 : 40 ≤ R.locals) (hd : decode (zbs mi) pc = .ok (.invokespecial i, 3)) (hm : zmq (zoc mi) i 1001 9 = true) (h : zoi X (pc + 3) ls st M) : X pc ls st M := by
  subst hX
  obtain ⟨q, r, rfl, hc, h⟩ := zoi_e h
  intro H locs lsA cells slots I
  have hsy := zsy_b
  simp only [Bool.and_eq_true] at hsy
  obtain ⟨⟨-, y4⟩, y5⟩ := hsy
  refine W.objInit K.1 K.2.1 (zK_own K) (zK_ts K _ ((zmq_in hm).2.1 rfl)) (zK_ts K _ (zwd_in y4)) (zK_ts K _ (zwd_in (of_decide_eq_true y5))) rfl (by show lsA.size = _; rw [I.2.2.1.1]; exact K.2.2.1.symm) rfl hd hR1 ?_ (h H locs lsA cells slots I)
  show 2 * 0 + ((r.map (zcv H0.size sv)).map fun v => v.category).sum + 12 ≤ R.locals
  rw [zcat_map (zK_sv K)]
  omega
theorem zs_const (hX : X = zXW D H0 sv dA mi n0 s0 p l e R s m args below meth c Qf) {np : Nat}
    (row : ∀ (H : Heap) (locs : List Loc) (cells slots : Nat) (lsA : Array Slot) (r : List Value), va_S (fun q => H0.size ≤ q) s.heap H locs → W p l e R s m args below meth c H locs cells slots Qf (F0 m np lsA (zcv H0.size sv v :: r)) → W p l e R s m args below meth c H locs cells slots Qf (F0 m pc lsA r)) (K : zctx D H0 xs sv dA mi p s m args meth c)
    (h : X np ls (v :: st) M) : X pc ls st M := by
  subst hX
  intro H locs lsA cells slots I
  exact row H locs cells slots lsA _ (zI_S K I) (h H locs lsA cells slots I)
end SND4
