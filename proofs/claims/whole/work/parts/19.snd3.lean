/-! one step: arrays, new cells -/
section SND3
variable {p : Program} {l : Launch} {e : Env} {R : Room} {s : State} {m : MethodId} {args : Array Value} {below : List Frame} {meth : Method} {c : Code} {Qf : State → Prop}
variable {D : va_G} {H0 : Heap} {xs : List Int32} {sv : Nat → Value} {dA : Nat → ClassId} {mi n0 s0 : Nat} {X : zX}
variable {pc : Nat} {ls st : List Value} {M : zM} {a b : Nat} {v : Value}
theorem zs_iaload (hX : X = zXW D H0 sv dA mi n0 s0 p l e R s m args below meth c Qf) (K : zctx D H0 xs sv dA mi p s m args meth c) (hd : decode (zbs mi) pc = .ok (.iaload, 1)) (h : zal xs 0 X (pc + 1) ls st M) : X pc ls st M := by
  subst hX
  intro H locs lsA cells slots I
  obtain ⟨i, r, ⟨q, n, rfl, hS, hin, h⟩ | ⟨k, w, rfl, hk, hin, h⟩⟩ := zal_e h
  · exact va_iald (ws := [(H0.size + q, .inl (dA 0, n, zcon H0.size M q 0))]) K.1 K.2.1 (zK_env K).1 (va_P1 (zrep_a I.1 hS (by decide))) 0 0 (f := zI M q) rfl rfl hin hd (h H locs lsA cells slots I)
  · obtain ⟨t, et, hT⟩ := (zK_env K).2.2.2.2.2.2.2.2.2.1 k 0 w hk
    show W p l e R s m args below meth c H locs cells slots Qf (F0 m pc lsA (.int i :: sv k :: r.map (zcv H0.size sv)))
    rw [et]
    exact va_ti K.1 K.2.1 (hT.kept (zK_kept K)) (zI_S K I) hin rfl hd (h H locs lsA cells slots I)
theorem zs_baload (hX : X = zXW D H0 sv dA mi n0 s0 p l e R s m args below meth c Qf) (K : zctx D H0 xs sv dA mi p s m args meth c) {t : Nat} (ht : t = 1 ∨ t = 2) (hd : decode (zbs mi) pc = .ok (.baload, 1)) (h : zal xs t X (pc + 1) ls st M) : X pc ls st M := by
  subst hX
  intro H locs lsA cells slots I
  obtain ⟨i, r, ⟨q, n, rfl, hS, hin, g⟩ | ⟨k, w, rfl, hk, hin, g⟩⟩ := zal_e h
  · rcases ht with rfl | rfl
    · exact va_bald (ws := [(H0.size + q, .inl (dA 1, n, zcon H0.size M q 1))]) K.1 K.2.1 (zK_env K).1 (va_P1 (zrep_a I.1 hS (by decide))) 0 1 (f := zI M q) rfl rfl hin hd (g H locs lsA cells slots I)
    · exact va_zald (ws := [(H0.size + q, .inl (dA 2, n, zcon H0.size M q 2))]) K.1 K.2.1 (zK_env K).1 (va_P1 (zrep_a I.1 hS (by decide))) 0 2 (f := zI M q) rfl rfl hin hd (g H locs lsA cells slots I)
  · obtain ⟨u, et, hT⟩ := (zK_env K).2.2.2.2.2.2.2.2.2.1 k t w hk
    have e1 : zbty t = .byte := by rcases ht with rfl | rfl <;> rfl
    rw [e1] at hT
    show W p l e R s m args below meth c H locs cells slots Qf (F0 m pc lsA (.int i :: sv k :: r.map (zcv H0.size sv)))
    rw [et]
    exact va_tb K.1 K.2.1 (hT.kept (zK_kept K)) (zI_S K I) hin rfl hd (g H locs lsA cells slots I)
theorem zs_laload (hX : X = zXW D H0 sv dA mi n0 s0 p l e R s m args below meth c Qf) (K : zctx D H0 xs sv dA mi p s m args meth c) (hd : decode (zbs mi) pc = .ok (.laload, 1)) (h : zll X (pc + 1) ls st M) : X pc ls st M := by
  subst hX
  intro H locs lsA cells slots I
  obtain ⟨i, q, n, r, rfl, hS, hin, h⟩ := zll_e h
  exact va_lald (ws := [(H0.size + q, .inl (dA 3, n, zcon H0.size M q 3))]) K.1 K.2.1 (zK_env K).1 (va_P1 (zrep_a I.1 hS (by decide))) 0 3 (f := zL M q) rfl rfl hin hd (h H locs lsA cells slots I)
theorem zs_aaload (hX : X = zXW D H0 sv dA mi n0 s0 p l e R s m args below meth c Qf) (K : zctx D H0 xs sv dA mi p s m args meth c) (hd : decode (zbs mi) pc = .ok (.aaload, 1)) (h : zaa X (pc + 1) ls st M) : X pc ls st M := by
  subst hX
  intro H locs lsA cells slots I
  obtain ⟨i, q, n, t, r, rfl, hS, hin, hR, h⟩ := zaa_e h
  refine va_aldq (ws := [(H0.size + q, .inl (dA 4, n, zcon H0.size M q 4))]) K.1 K.2.1 (zK_env K).1 (va_P1 (zrep_a I.1 hS (by decide))) 0 4 (f := fun j => (zR M q j).map (fun y => H0.size + y)) rfl rfl hin hd ?_
  rw [hR]
  exact h H locs lsA cells slots I
theorem zs_len (hX : X = zXW D H0 sv dA mi n0 s0 p l e R s m args below meth c Qf) (K : zctx D H0 xs sv dA mi p s m args meth c) (hd : decode (zbs mi) pc = .ok (.arraylength, 1)) (h : zlen xs X (pc + 1) ls st M) : X pc ls st M := by
  subst hX
  intro H locs lsA cells slots I
  obtain ⟨r, ⟨q, t, n, rfl, hS, ht, h⟩ | ⟨k, t, w, rfl, hk, h⟩⟩ := zlen_e h
  · have hty : ∃ ty, (ztys dA)[t]? = some (dA t, ty) := by
      match t, ht with
      | 0, _ => exact ⟨_, rfl⟩
      | 1, _ => exact ⟨_, rfl⟩
      | 2, _ => exact ⟨_, rfl⟩
      | 3, _ => exact ⟨_, rfl⟩
      | 4, _ => exact ⟨_, rfl⟩
      | t + 5, h => omega
    obtain ⟨ty, hty⟩ := hty
    exact va_alen (ws := [(H0.size + q, .inl (dA t, n, zcon H0.size M q t))]) K.1 K.2.1 (zK_env K).1 (va_P1 (zrep_a I.1 hS ht)) 0 t rfl hty rfl hd (h H locs lsA cells slots I)
  · obtain ⟨u, et, hT⟩ := (zK_env K).2.2.2.2.2.2.2.2.2.1 k t w hk
    show W p l e R s m args below meth c H locs cells slots Qf (F0 m pc lsA (sv k :: r.map (zcv H0.size sv)))
    rw [et]
    exact va_tlen K.1 K.2.1 (hT.kept (zK_kept K)) (zI_S K I) rfl hd (h H locs lsA cells slots I)
theorem zst_i {cA : ClassId} {n k : Nat} {f : Nat → Int32} {x : Int32} : (vp_cell cA (n, .inl f)).setSlot k (.int x) = vp_cell cA (n, .inl (fun j => if j = k then x else f j)) := by
  rw [vp_cell_i, vp_cell_i, arrV_store]
  congr 1
  funext q
  unfold updV
  split <;> rfl
theorem zst_l {cA : ClassId} {n k : Nat} {f : Nat → Int64} {x : Int64} : (vp_cell cA (n, .inr (.inl f))).setSlot k (.long x) = vp_cell cA (n, .inr (.inl (fun j => if j = k then x else f j))) := by
  rw [vp_cell_l, vp_cell_l, arrV_store]
  congr 1
  funext q
  unfold updV
  split <;> rfl
theorem zst_q {cA : ClassId} {n k : Nat} {f : Nat → Option Nat} {x : Nat} : (vp_cell cA (n, .inr (.inr (.inr (.inr f))))).setSlot k (.ref x) = vp_cell cA (n, .inr (.inr (.inr (.inr (fun j => if j = k then some x else f j))))) := by
  rw [vp_cell_q, vp_cell_q, arrV_store]
  congr 1
  funext q
  unfold updV
  split <;> rfl
theorem zrow_wI {q k : Nat} {x : Int32} : zI (zwI M q k x) q = fun j => if j = k then x else zI M q j := by
  funext j
  exact zup_at
theorem zrow_wL {q k : Nat} {x : Int64} : zL (zwL M q k x) q = fun j => if j = k then x else zL M q j := by
  funext j
  exact zup_at
theorem zrep_wI {H H1 : Heap} {q k t n : Nat} {x : Int32} (hr : zrep D H0 dA M H) (ht : t < 3) (hS : zS M q = .inr (t, n)) (e1 : H1[H0.size + q]? = some ((vp_cell (dA t) (n, .inl (zI M q))).setSlot k (.int x))) (e2 : H1.size = H.size) (e3 : ∀ y, y ≠ H0.size + q → H1[y]? = H[y]?) : zrep D H0 dA (zwI M q k x) H1 := by
  refine zrep_set hr (zrep_lt2 hr hS (by omega)) e2 e3 rfl (fun _ => rfl) (fun y hy => zcell_wI hy) ?_
  rw [zcell_a (show zS (zwI M q k x) q = .inr (t, n) from hS)]
  have hc : zcon H0.size (zwI M q k x) q t = .inl (zI (zwI M q k x) q) := by
    match t, ht with
    | 0, _ => rfl
    | 1, _ => rfl
    | 2, _ => rfl
    | t + 3, h => omega
  rw [hc, zrow_wI]
  show H1[H0.size + q]? = some (vp_cell (dA t) (n, .inl (fun j => if j = k then x else zI M q j)))
  rw [e1, zst_i]
theorem zarr_in {i : Int32} {n : Nat} {cA : ClassId} {f : Nat → Value} (h : vp_in i n) : ¬ (i < 0 ∨ (arrV cA n f).slots.size ≤ i.toNatClampNeg) := by
  rw [arrV_size]; exact h
theorem zs_iastore (hX : X = zXW D H0 sv dA mi n0 s0 p l e R s m args below meth c Qf) (K : zctx D H0 xs sv dA mi p s m args meth c) (hd : decode (zbs mi) pc = .ok (.iastore, 1)) (h : zas 0 (fun x => x) X (pc + 1) ls st M) : X pc ls st M := by
  subst hX
  intro H locs lsA cells slots I
  obtain ⟨x, i, q, n, r, rfl, hS, hin, h⟩ := zas_e h
  exact W.iast K.1 K.2.1 (cell := vp_cell (dA 0) (n, .inl (zI M q))) (zrep_a I.1 hS (by decide)) (((zK_env K).1.2 0 _ rfl).1 n (fun j => .int (zI M q j))) (fun z => by cases z) (zarr_in hin) rfl rfl hd fun H1 e1 e2 e3 =>
    h H1 _ lsA cells slots (zinv_set I (zrep_wI I.1 (by decide) hS e1 e2 e3) e2 rfl rfl)
theorem znar_b (x : Int32) : narrow .byte (.int x) = .int (vp_nar .byte x) := rfl
theorem znar_z (x : Int32) : narrow .boolean (.int x) = .int (vp_nar .boolean x) := rfl
theorem zs_bastore (hX : X = zXW D H0 sv dA mi n0 s0 p l e R s m args below meth c Qf) (K : zctx D H0 xs sv dA mi p s m args meth c) {t : Nat} (ht : t = 1 ∨ t = 2) (hd : decode (zbs mi) pc = .ok (.bastore, 1)) (h : zas t (zbn t) X (pc + 1) ls st M) : X pc ls st M := by
  subst hX
  intro H locs lsA cells slots I
  obtain ⟨x, i, q, n, r, rfl, hS, hin, h⟩ := zas_e h
  rcases ht with rfl | rfl
  · exact W.bast K.1 K.2.1 (cell := vp_cell (dA 1) (n, .inl (zI M q))) (zrep_a I.1 hS (by decide)) (((zK_env K).1.2 1 _ rfl).1 n (fun j => .int (zI M q j))) (fun z => by cases z) (zarr_in hin) rfl rfl hd fun H1 e1 e2 e3 =>
      h H1 _ lsA cells slots (zinv_set I (zrep_wI I.1 (by decide) hS (by show _ = some (Cell.setSlot _ _ (.int (vp_nar .byte x))); rw [← znar_b]; exact e1) e2 e3) e2 rfl rfl)
  · exact W.zast K.1 K.2.1 (cell := vp_cell (dA 2) (n, .inl (zI M q))) (zrep_a I.1 hS (by decide)) (((zK_env K).1.2 2 _ rfl).1 n (fun j => .int (zI M q j))) (fun z => by cases z) (zarr_in hin) rfl rfl hd fun H1 e1 e2 e3 =>
      h H1 _ lsA cells slots (zinv_set I (zrep_wI I.1 (by decide) hS (by show _ = some (Cell.setSlot _ _ (.int (vp_nar .boolean x))); rw [← znar_z]; exact e1) e2 e3) e2 rfl rfl)
theorem zs_lastore (hX : X = zXW D H0 sv dA mi n0 s0 p l e R s m args below meth c Qf) (K : zctx D H0 xs sv dA mi p s m args meth c) (hd : decode (zbs mi) pc = .ok (.lastore, 1)) (h : zls X (pc + 1) ls st M) : X pc ls st M := by
  subst hX
  intro H locs lsA cells slots I
  obtain ⟨x, i, q, n, r, rfl, hS, hin, h⟩ := zls_e h
  refine W.last K.1 K.2.1 (cell := vp_cell (dA 3) (n, .inr (.inl (zL M q)))) (zrep_a I.1 hS (by decide)) (((zK_env K).1.2 3 _ rfl).1 n (fun j => .long (zL M q j))) (fun z => by cases z) (zarr_in hin) rfl rfl hd fun H1 e1 e2 e3 => ?_
  have hr : zrep D H0 dA (zwL M q i.toNatClampNeg x) H1 := by
    refine zrep_set I.1 (zrep_lt2 I.1 hS (by decide)) e2 e3 rfl (fun _ => rfl) (fun y hy => zcell_wL hy) ?_
    rw [zcell_a (show zS (zwL M q i.toNatClampNeg x) q = .inr (3, n) from hS)]
    show H1[H0.size + q]? = some (vp_cell (dA 3) (n, .inr (.inl (zL (zwL M q i.toNatClampNeg x) q))))
    rw [e1, zst_l, zrow_wL]
  exact h H1 _ lsA cells slots (zinv_set I hr e2 rfl rfl)
theorem zs_aastore (hX : X = zXW D H0 sv dA mi n0 s0 p l e R s m args below meth c Qf) (K : zctx D H0 xs sv dA mi p s m args meth c) (hd : decode (zbs mi) pc = .ok (.aastore, 1)) (h : zaas X (pc + 1) ls st M) : X pc ls st M := by
  subst hX
  intro H locs lsA cells slots I
  obtain ⟨t, i, q, n, r, rfl, hS, hin, hT, h⟩ := zaas_e h
  have hE := (zK_env K).1
  obtain ⟨r', hr', cellV, g1, g2, g3, -⟩ := zrep_o I.1 hT
  have hcls := (hE.1 6 _ (zcls_get (by decide))).2
  obtain ⟨kA, comp, k1, k2, k3, -⟩ := (hE.2 4 _ rfl).2
  have hcomp : comp = D.1 6 := Option.some.inj (k3.symm.trans hcls.1)
  subst hcomp
  obtain ⟨kC, hkC, -⟩ := hcls.2
  refine W.aast K.1 K.2.1 (cell := vp_cell (dA 4) (n, .inr (.inr (.inr (.inr (fun j => (zR M q j).map (fun y => H0.size + y))))))) (zrep_a I.1 hS (by decide)) (fun q h => by cases h) (fun h => by cases h) k1 k2 rfl hkC ⟨fun z => hin (Or.inl z), by show _ < (arrV _ _ _).slots.size; rw [arrV_size]; exact Nat.not_le.mp fun z => hin (Or.inr z)⟩ g1 (fun q h => by rw [g3] at h; cases h) (by rw [g2]; exact hkC) (by rw [g2]; exact va_assign hcls) rfl rfl hd fun H1 e1 e2 e3 => ?_
  have hr : zrep D H0 dA (zwR M q i.toNatClampNeg (some t)) H1 := by
    refine zrep_set I.1 (zrep_lt2 I.1 hS (by decide)) e2 e3 rfl (fun _ => rfl) (fun y hy => zcell_wR hy) ?_
    rw [zcell_a (show zS (zwR M q i.toNatClampNeg (some t)) q = .inr (4, n) from hS)]
    show H1[H0.size + q]? = some (vp_cell (dA 4) (n, .inr (.inr (.inr (.inr (fun j => (zup M.1.2.2.2 q i.toNatClampNeg (some t) q j).map (fun y => H0.size + y)))))))
    rw [e1, zst_q]
    congr 7
    funext j
    rw [zup_at]
    split <;> rfl
  exact h H1 _ lsA cells slots (zinv_set I hr e2 rfl rfl)
theorem zs_copy (hX : X = zXW D H0 sv dA mi n0 s0 p l e R s m args below meth c Qf) (K : zctx D H0 xs sv dA mi p s m args meth c) {i : Nat} (hR1 : 1 ≤ R.frames) (hR2 : 40 ≤ R.locals) (hd : decode (zbs mi) pc = .ok (.invokestatic i, 3)) (hm : zmq (zoc mi) i 1000 8 = true) (h : zac X (pc + 3) ls st M) : X pc ls st M := by
  subst hX
  intro H locs lsA cells slots I
  obtain ⟨n, dp, q1, sp, q0, m0, m1, rfl, hS0, hS1, h1, h2, h3, h4, h5, h⟩ := zac_e h
  have hlk := zK_ts K _ ((zmq_in hm).2.1 rfl)
  have hsy := zsy_b
  simp only [Bool.and_eq_true] at hsy
  obtain ⟨⟨⟨⟨y1, y2⟩, y3⟩, -⟩, -⟩ := hsy
  have hK := (zK_env K).1
  have nn : ∀ z : Int32, ¬ z < 0 → z.toInt = (z.toNatClampNeg : Int) := by
    intro z hz
    have hz0 : (0 : Int) ≤ z.toInt := by
      have := Int32.not_lt.mp hz
      simpa using Int32.le_iff_toInt_le.mp this
    show z.toInt = ((z.toInt.toNat : Nat) : Int)
    omega
  intro T hT Y
  have hc0 : H[H0.size + q0]? = some (vp_cell (dA 0) (m0, .inl (zI M q0))) := zrep_a I.1 hS0 (by decide)
  have hc1 : H[H0.size + q1]? = some (vp_cell (dA 0) (m1, .inl (zI M q1))) := zrep_a I.1 hS1 (by decide)
  obtain ⟨-, k0, hk0, cm0, hkk0⟩ := (hK.2 0 _ rfl).1 m0 (fun j => .int (zI M q0 j))
  obtain ⟨-, k1, hk1, cm1, hkk1⟩ := (hK.2 0 _ rfl).1 m1 (fun j => .int (zI M q1 j))
  obtain ⟨vm', Y', step⟩ := Y.arraycopy K.1 (zK_own K) hlk (zK_ts K _ (zwd_in y1)) (zK_ts K _ (zwd_in y2)) (zK_ts K _ (zwd_in y3)) (src := H0.size + q0) (dst := H0.size + q1) (cs := vp_cell (dA 0) (m0, .inl (zI M q0))) (cd := vp_cell (dA 0) (m1, .inl (zI M q1))) (srcPos := sp) (destPos := dp) (n := n) (by rw [hT]; exact hc0) (by rw [hT]; exact hc1)
    (fun _ h => by cases h) (fun _ h => by cases h) (fun h => by cases h) (fun h => by cases h) hk0 hk1 hkk0 hkk1 (by rfl) h1 h2 h3
    (by rw [nn sp h1, nn n h3]; show ¬ _ > ((arrV (dA 0) m0 (fun j => .int (zI M q0 j))).slots.size : Int); rw [arrV_size]; omega)
    (by rw [nn dp h2, nn n h3]; show ¬ _ > ((arrV (dA 0) m1 (fun j => .int (zI M q1 j))).slots.size : Int); rw [arrV_size]; omega)
    (fun vm₁ _ i hi => by
      have e : (vp_cell (dA 0) (m0, .inl (zI M q0))).slots.getD (sp.toNatClampNeg + i) .null = .int (zI M q0 (sp.toNatClampNeg + i)) := by
        show (arrV (dA 0) m0 (fun j => .int (zI M q0 j))).slots.getD _ _ = _
        rw [Array.getD_eq_getD_getElem?, arrV_read _ _ (by omega)]
        rfl
      refine ⟨?_, ?_⟩
      · rw [e]; rfl
      · rw [e]; exact trivial)
    (g := F0 m pc lsA [.int n, .int dp, .ref (H0.size + q1), .int sp, .ref (H0.size + q0)]) rfl (by show lsA.size = _; rw [I.2.2.1.1]; exact K.2.2.1.symm) (rest := []) rfl (by rw [K.2.1]; exact hd) hR1 (by show 2 * 0 + 0 + _ ≤ _; exact Nat.le_trans (by decide) hR2)
  have e1 : copied (vp_cell (dA 0) (m0, .inl (zI M q0))) (vp_cell (dA 0) (m1, .inl (zI M q1))) sp dp n = vp_cell (dA 0) (m1, .inl (va_cpy (zI M q0) (zI M q1) sp.toNatClampNeg dp.toNatClampNeg n.toNatClampNeg)) := va_copied (fun z => .int z) (dA 0) (dA 0) (zI M q0) (zI M q1) h4
  rw [e1] at Y' step
  have hl : H0.size + q1 < H.size := (Array.getElem?_eq_some_iff.mp hc1).1
  generalize hV : vp_cell (dA 0) (m1, .inl (va_cpy (zI M q0) (zI M q1) sp.toNatClampNeg dp.toNatClampNeg n.toNatClampNeg)) = V at Y' step
  have hheap : ((T.setVm vm').setCell (H0.size + q1) V).heap = H.setIfInBounds (H0.size + q1) V := by rw [← hT]; rfl
  have oq : ∀ q : Nat, q ≠ H0.size + q1 → (H.setIfInBounds (H0.size + q1) V)[q]? = H[q]? := fun q hq => by simp [Array.getElem?_setIfInBounds, Ne.symm hq]
  have hr : zrep D H0 dA (zcpy M q0 sp.toNatClampNeg q1 dp.toNatClampNeg n.toNatClampNeg) (H.setIfInBounds (H0.size + q1) V) := by
    refine zrep_set I.1 (zrep_lt2 I.1 hS1 (by decide)) (by simp) oq rfl (fun _ => rfl) (fun y hy => ?_) ?_
    · have ez : (zcpy M q0 sp.toNatClampNeg q1 dp.toNatClampNeg n.toNatClampNeg).2.1 y = M.2.1 y := by
        funext j
        show zrow _ _ _ _ _ = _
        unfold zrow
        rw [if_neg hy]
      unfold zcell zfs zfv zcon zI zR zL zS
      rw [ez]
      rfl
    · rw [zcell_a (show zS (zcpy M q0 sp.toNatClampNeg q1 dp.toNatClampNeg n.toNatClampNeg) q1 = .inr (0, m1) from hS1)]
      show (H.setIfInBounds (H0.size + q1) V)[H0.size + q1]? = some (vp_cell (dA 0) (m1, .inl (fun j => zrow _ _ _ q1 j)))
      have ez : (fun j => zrow M.2.1 q1 (va_cpy (M.2.1 q0) (M.2.1 q1) sp.toNatClampNeg dp.toNatClampNeg n.toNatClampNeg) q1 j) = va_cpy (zI M q0) (zI M q1) sp.toNatClampNeg dp.toNatClampNeg n.toNatClampNeg := by
        funext j
        unfold zrow
        rw [if_pos rfl]
        rfl
      rw [ez, hV]
      simp [Array.getElem?_setIfInBounds, hl]
  have I' : ∀ L : List Loc, (∀ x ∈ L, H0.size ≤ x.base) → zinv D H0 sv dA mi n0 s0 R s (H.setIfInBounds (H0.size + q1) V) (locs ++ L) lsA cells slots ls (zcpy M q0 sp.toNatClampNeg q1 dp.toNatClampNeg n.toNatClampNeg) := by
    intro L hL
    obtain ⟨-, i2, i3, i4, i5, i6, i7, i8, i9⟩ := I
    refine ⟨hr, fun x hx => ?_, i3, i4, i5, i6, i7, i8, by simpa using i9⟩
    rcases List.mem_append.mp hx with g | g
    · exact i2 x g
    · exact hL x g
  obtain ⟨t, a1, b1⟩ := h _ _ lsA cells slots (I' _ (fun x hx => by
    obtain ⟨z, -, hz⟩ := List.mem_map.mp hx
    rw [← hz]
    exact Nat.le_add_right _ _)) _ hheap Y'
  exact ⟨t, step t a1, b1⟩
end SND3
