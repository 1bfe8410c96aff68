/-! one step: fields and arrays -/
section SND2
variable {p : Program} {l : Launch} {e : Env} {R : Room} {s : State} {m : MethodId} {args : Array Value} {below : List Frame} {meth : Method} {c : Code} {Qf : State → Prop}
variable {D : va_G} {H0 : Heap} {xs : List Int32} {sv : Nat → Value} {dA : Nat → ClassId} {mi n0 s0 : Nat} {X : zX}
variable {pc : Nat} {ls st : List Value} {M : zM} {a b : Nat} {v : Value}
theorem zI_S {H : Heap} {locs : List Loc} {lsA : Array Slot} {cells slots : Nat} (K : zctx D H0 xs sv dA mi p s m args meth c) (I : zinv D H0 sv dA mi n0 s0 R s H locs lsA cells slots ls M) : va_S (fun q => H0.size ≤ q) s.heap H locs :=
  ⟨I.2.2.2.2.2.2.2.2, fun q _ h2 => (I.1.2.1 q (Nat.not_le.mp h2)).trans (K.2.2.2.2.2.2.2.2.2.2.1 q (Nat.not_le.mp h2)).symm, fun x hx => I.2.1 x hx⟩
theorem zK_kept (K : zctx D H0 xs sv dA mi p s m args meth c) : ∀ a : Nat, a < H0.size → ¬ (fun q => H0.size ≤ q) a → s.heap[a]? = H0[a]? := fun a h _ => K.2.2.2.2.2.2.2.2.2.2.1 a h
theorem zK_env (K : zctx D H0 xs sv dA mi p s m args meth c) : zenv D H0 xs sv dA s := K.2.2.2.2.2.2.2.2.1
theorem zK_own (K : zctx D H0 xs sv dA mi p s m args meth c) : s.vm.findClass (zow mi) = some m.cls := K.2.2.2.2.1
theorem zK_ts (K : zctx D H0 xs sv dA mi p s m args meth c) : ∀ w ∈ zgw, w.before args s = true := K.2.2.2.2.2.1
theorem zfv_r {z q ci k t : Nat} (h : 4 = ztc (zTy ci k)) (hR : zR M q k = some t) : zfv z M q ci k = .ref (z + t) := by
  unfold zfv
  rw [← h, hR]
  rfl
theorem zfv_l {z q ci k : Nat} (h : 3 = ztc (zTy ci k)) : zfv z M q ci k = .long (zL M q k) := by
  unfold zfv
  rw [← h]
  rfl
theorem zfv_i {z q ci k : Nat} (h3 : ztc (zTy ci k) ≠ 3) (h4 : ztc (zTy ci k) ≠ 4) : zfv z M q ci k = .int (zI M q k) := by
  unfold zfv
  split
  next h => exact absurd h h4
  next h => exact absurd h h3
  · rfl
theorem zs_getfield (hX : X = zXW D H0 sv dA mi n0 s0 p l e R s m args below meth c Qf) (K : zctx D H0 xs sv dA mi p s m args meth c) {i cc : Nat} (hd : decode (zbs mi) pc = .ok (.getfield i, 3)) (hq : zfq (zoc mi) i a b = true) (hc : a = 99 ∨ (a < 9 ∧ b < (zcls a).2.2 ∧ cc = ztc (zTy a b))) (h : zgf a b cc X (pc + 3) ls st M) : X pc ls st M := by
  subst hX
  intro H locs lsA cells slots I
  have hE := zK_env K
  rcases zgf_e h with ⟨q, r, rfl, hS, h⟩ | ⟨k, r, rfl, rfl, hk, g⟩
  · have ha : a < 9 := I.1.2.2.2.1 q a hS
    obtain ⟨-, hb9, hcc⟩ : a < 9 ∧ b < (zcls a).2.2 ∧ cc = ztc (zTy a b) := by
      rcases hc with g | g
      · omega
      · exact g
    have hl := zK_ts K _ (zfq_in hq)
    rw [zfl_9 ha] at hl
    refine va_get (D := D) (cl := vwCl) (tys := ztys dA) (ws := [(H0.size + q, .inr (a, zfs H0.size M q a))]) (ref := ((zcls a).2.1 b).1) (own := zow mi) (C := (zcls a).1) (T := (zcls a).2.1) (N := (zcls a).2.2) K.1 K.2.1 (zK_ts K) (zlay_in a ha) (zK_own K) hE.1 (va_P1 (zrep_o I.1 hS)) 0 rfl (zcls_get ha) b hb9 hl (fun _ h9 => h9) (zfs_get hb9) hd ?_
    rcases h with ⟨h4, t, hR, h⟩ | ⟨h3, h⟩ | ⟨h4, h3, h⟩
    · rw [zfv_r (h4 ▸ hcc) hR]
      exact h H locs lsA cells slots I
    · rw [zfv_l (h3 ▸ hcc)]
      exact h H locs lsA cells slots I
    · rw [zfv_i (hcc ▸ h3) (hcc ▸ h4)]
      exact h H locs lsA cells slots I
  · obtain ⟨t, et, -, hV, hCo⟩ := hE.2.2.2.2.2.2.2.2.2.2 k hk
    have hl := zK_ts K _ (zfq_in hq)
    show W p l e R s m args below meth c H locs cells slots Qf (F0 m pc lsA (sv k :: r.map (zcv H0.size sv)))
    rw [et]
    rcases g with ⟨rfl, g⟩ | ⟨rfl, g⟩
    · exact vk_getf (own := zow mi) (ref := RJ0) K.1 K.2.1 (hV.kept (zK_kept K)) (zI_S K I) (zK_own K) hl (fun _ h9 => h9) hd (g H locs lsA cells slots I)
    · exact vk_getf (own := zow mi) (ref := RJ0) K.1 K.2.1 (hCo.kept (zK_kept K)) (zI_S K I) (zK_own K) hl (fun _ h9 => h9) hd (g H locs lsA cells slots I)
/-- a field's new value; the heap keeps its size -/
theorem zv_put (K : zctx D H0 xs sv dA mi p s m args meth c) {i ci k q : Nat} {fs : List Value} {H : Heap} {locs : List Loc} {cells slots : Nat} {lsA : Array Slot} {r : List Value} (hci : ci < 9) (hk : k < (zcls ci).2.2) (hat : va_at D vwCl (q, .inr (ci, fs)) H) (hq : zfq (zoc mi) i ci k = true) (hfin : ((zcls ci).2.1 k).2.2.2 = false ∨ (((zcls ci).2.1 k).2.2.2 = true ∧ (zy mi).name = "<init>" ∧ ((zcls ci).2.1 k).1 = zow mi)) (hn : narrow (zTy ci k) v = v) (hfit : fits (zTy ci k) v = true) (hl : k < fs.length) (hd : decode (zbs mi) pc = .ok (.putfield i, 3))
    (kk : ∀ (H1 : Heap) (j : Nat), va_at D vwCl (q, .inr (ci, fs.set k v)) H1 → H1.size = H.size → (∀ x, x ≠ q → H1[x]? = H[x]?) → W p l e R s m args below meth c H1 (locs ++ [⟨q, j⟩]) cells slots Qf (F0 m (pc + 3) lsA r)) : W p l e R s m args below meth c H locs cells slots Qf (F0 m pc lsA (v :: .ref q :: r)) := by
  have hts := zK_ts K
  have hown := zK_own K
  have hK := (zK_env K).1
  have hin := zlay_in ci hci
  have hc := zcls_get hci
  have hlk := hts _ (zfq_in hq)
  rw [zfl_9 hci] at hlk
  have hap := va_apart (own := zow mi) (T := (zcls ci).2.1) hts hin (zTy ci) (zty_ok ci hci) (znm_ok ci hci) hK hc
  obtain ⟨r0, h1, cell, q1, q2, q3, q4⟩ := hat
  have hr : r0 = zcls ci := Option.some.inj (h1.symm.trans hc)
  subst hr
  obtain ⟨hS, hfc, kC, hkC, hkind⟩ := hK.1 ci _ hc
  obtain ⟨cf, kf, fi, f, hi, hsl⟩ := hS k hk
  have hlay := hts _ (hin _ (u_in_lay hk))
  have hst := (u_facts hfc hkC (u_lays hts hin hk) hi).1
  have hd9 := zty_ok ci hci k hk
  have fin : ∀ (H' : Heap), H'[q]? = some (cell.setSlot (D.2 ci k) v) → H'.size = H.size → (∀ x, x ≠ q → H'[x]? = H[x]?) → va_at D vwCl (q, .inr (ci, fs.set k v)) H' := fun H' e1 e2 e3 => ⟨_, hc, t_OB.to (V := updV (vp_V fs) k v) ⟨_, e1, q2, q3, t_set q4 hap hk v⟩ (fun j _ => vp_updV_set hl v j)⟩
  rcases hfin with hf | ⟨hf, hnm, hdecl⟩
  · unfold u_lay at hlay
    rw [if_neg (by rw [hf]; decide)] at hlay
    have h6 := u_store hfc hkC hkind hlay hi hd9 hn hfit
    refine W.putK K.1 K.2.1 (f := f) ⟨hown, hlk, ⟨_, _, _, hi⟩, hst⟩ (by rw [q2]; exact h6) q1 q3 (by rw [hsl]; exact k2_hasslot (q4 k hk)) rfl rfl hd fun H' e1 e2 e3 => ?_
    rw [hsl] at e1
    exact kk H' _ (fin H' e1 e2 e3) e2 e3
  · unfold u_lay at hlay
    rw [if_pos hf] at hlay
    have hcf : m.cls = cf := by
      obtain ⟨_, _, c', _, _, _, -, -, hf', -, -, -, hown2, -⟩ := Cond.laysFinal_spec hlay
      have e1 : c' = cf := by have := hi.symm.trans hf'; simp at this; exact this.1.symm
      rw [hdecl] at hown2
      rw [← e1]; exact Option.some.inj (hown.symm.trans hown2)
    have h6 := u_fits hfc hkC hkind (Or.inr hlay) hi hd9 hn hfit
    refine W.putFinK K.1 K.2.1 hown hlk hi hst hcf (K.2.2.2.2.2.2.2.1 hnm) (by rw [q2]; exact h6) q1 q3 (by rw [hsl]; exact k2_hasslot (q4 k hk)) rfl rfl hd fun H' e1 e2 e3 => ?_
    rw [hsl] at e1
    exact kk H' _ (fin H' e1 e2 e3) e2 e3
theorem zinv_set {H H1 : Heap} {locs : List Loc} {lsA : Array Slot} {cells slots q j : Nat} {M' : zM} (I : zinv D H0 sv dA mi n0 s0 R s H locs lsA cells slots ls M) (hr : zrep D H0 dA M' H1) (hz : H1.size = H.size) (hn : zn M' = zn M) (hs : zsl M' = zsl M) : zinv D H0 sv dA mi n0 s0 R s H1 (locs ++ [⟨H0.size + q, j⟩]) lsA cells slots ls M' := by
  obtain ⟨-, h2, h3, h4, h5, h6, h7, h8, h9⟩ := I
  refine ⟨hr, fun x hx => ?_, h3, h4, by rw [hn]; exact h5, by rw [hs]; exact h6, by rw [hn]; exact h7, by rw [hs]; exact h8, by rw [hz]; exact h9⟩
  rcases List.mem_append.mp hx with g | g
  · exact h2 x g
  · rw [List.mem_singleton.mp g]
    exact Nat.le_add_right _ _
theorem zfits_int {ty : FieldType} (h : ztc ty = 0) (hx : ty = .int) (x : Int32) : narrow ty (.int x) = .int x ∧ fits ty (.int x) = true := by
  subst hx; exact ⟨rfl, rfl⟩
/-- which types the fields have -/
theorem zTy_ok : ∀ ci, ci < 9 → ∀ k, k < (zcls ci).2.2 → (ztc (zTy ci k) = 0 → zTy ci k = .int) ∧ (ztc (zTy ci k) = 2 → zTy ci k = .boolean) ∧ (ztc (zTy ci k) = 3 → zTy ci k = .long) ∧ ztc (zTy ci k) ≠ 1 ∧ zTy ci k ≠ .float ∧ zTy ci k ≠ .double := z9 (by decide +kernel) (by decide +kernel) (by decide +kernel) (by decide +kernel) (by decide +kernel) (by decide +kernel) (by decide +kernel) (by decide +kernel) (by decide +kernel)
theorem zbool_ok {x : Int32} (h : x = 0 ∨ x = 1) : narrow .boolean (.int x) = .int x ∧ fits .boolean (.int x) = true := by
  rcases h with rfl | rfl <;> exact ⟨by decide +kernel, by decide +kernel⟩
theorem zref_ok {ty : FieldType} (h : ztc ty = 4) (q : Nat) : narrow ty (.ref q) = .ref q ∧ fits ty (.ref q) = true := by
  cases ty <;> first | exact ⟨rfl, rfl⟩ | cases h
theorem zs_putfield (hX : X = zXW D H0 sv dA mi n0 s0 p l e R s m args below meth c Qf) (K : zctx D H0 xs sv dA mi p s m args meth c) {i cc : Nat} (hd : decode (zbs mi) pc = .ok (.putfield i, 3)) (hq : zfq (zoc mi) i a b = true) (ha : a < 9) (hb : b < (zcls a).2.2) (hcc : cc = ztc (zTy a b)) (hfin : ((zcls a).2.1 b).2.2.2 = false ∨ (((zcls a).2.1 b).2.2.2 = true ∧ (zy mi).name = "<init>" ∧ ((zcls a).2.1 b).1 = zow mi)) (h : zpf a b cc X (pc + 3) ls st M) : X pc ls st M := by
  subst hX
  intro H locs lsA cells slots I
  obtain ⟨t0, t2, t3, t1, tf, td⟩ := zTy_ok a ha b hb
  obtain ⟨q, r, ⟨x, rfl, hx, hS, h⟩ | ⟨x, rfl, hx, hS, h⟩ | ⟨x, rfl, hx, hS, h⟩⟩ := zpf_e h
  · have hty : narrow (zTy a b) (.int x) = .int x ∧ fits (zTy a b) (.int x) = true := by
      rcases hx with hx | ⟨hx, hx2⟩
      · rw [t0 (by rw [← hcc]; exact hx)]; exact ⟨rfl, rfl⟩
      · rw [t2 (by rw [← hcc]; exact hx)]; exact zbool_ok hx2
    have hn3 : ztc (zTy a b) ≠ 3 := by rw [← hcc]; rcases hx with hx | ⟨hx, -⟩ <;> omega
    have hn4 : ztc (zTy a b) ≠ 4 := by rw [← hcc]; rcases hx with hx | ⟨hx, -⟩ <;> omega
    refine zv_put (q := H0.size + q) (fs := zfs H0.size M q a) K ha hb (zrep_o I.1 hS) hq hfin hty.1 hty.2 (by rw [zfs_len]; exact hb) hd fun H1 j g1 g2 g3 => ?_
    have hr : zrep D H0 dA (zwI M q b x) H1 := zrep_set I.1 (zrep_lt1 I.1 hS) g2 g3 rfl (fun _ => rfl) (fun y hy => zcell_wI hy) (by
      rw [zcell_o (show zS (zwI M q b x) q = .inl a from hS)]
      rw [zfs_set (M' := zwI M q b x) hb (by rw [zfv_i hn3 hn4]; exact congrArg Value.int (by show zup _ _ _ _ _ _ = _; rw [zup_at, if_pos rfl])) (fun j hj => by
        unfold zfv zR zL zI
        show (match ztc (zTy a j) with | 4 => _ | 3 => _ | _ => Value.int (zup M.2.1 q b x q j)) = _
        rw [zup_at, if_neg hj]
        rfl)] at g1
      exact g1)
    exact h H1 _ lsA cells slots (zinv_set I hr g2 rfl rfl)
  · have hty : narrow (zTy a b) (.long x) = .long x ∧ fits (zTy a b) (.long x) = true := by
      rw [t3 (by rw [← hcc]; exact hx)]; exact ⟨rfl, rfl⟩
    refine zv_put (q := H0.size + q) (fs := zfs H0.size M q a) K ha hb (zrep_o I.1 hS) hq hfin hty.1 hty.2 (by rw [zfs_len]; exact hb) hd fun H1 j g1 g2 g3 => ?_
    have hr : zrep D H0 dA (zwL M q b x) H1 := zrep_set I.1 (zrep_lt1 I.1 hS) g2 g3 rfl (fun _ => rfl) (fun y hy => zcell_wL hy) (by
      rw [zcell_o (show zS (zwL M q b x) q = .inl a from hS)]
      rw [zfs_set (M' := zwL M q b x) hb (by rw [zfv_l (by rw [← hcc]; exact hx.symm)]; exact congrArg Value.long (by show zup _ _ _ _ _ _ = _; rw [zup_at, if_pos rfl])) (fun j hj => by
        unfold zfv zR zL zI
        show (match ztc (zTy a j) with | 4 => _ | 3 => Value.long (zup M.2.2 q b x q j) | _ => _) = _
        rw [zup_at, if_neg hj]
        rfl)] at g1
      exact g1)
    exact h H1 _ lsA cells slots (zinv_set I hr g2 rfl rfl)
  · have hty := zref_ok (ty := zTy a b) (by rw [← hcc]; exact hx) (H0.size + x)
    refine zv_put (v := .ref (H0.size + x)) (q := H0.size + q) (fs := zfs H0.size M q a) K ha hb (zrep_o I.1 hS) hq hfin hty.1 hty.2 (by rw [zfs_len]; exact hb) hd fun H1 j g1 g2 g3 => ?_
    have hr : zrep D H0 dA (zwR M q b (some x)) H1 := zrep_set I.1 (zrep_lt1 I.1 hS) g2 g3 rfl (fun _ => rfl) (fun y hy => zcell_wR hy) (by
      rw [zcell_o (show zS (zwR M q b (some x)) q = .inl a from hS)]
      rw [zfs_set (M' := zwR M q b (some x)) hb (zfv_r (by rw [← hcc]; exact hx.symm) (by show zup _ _ _ _ _ _ = _; rw [zup_at, if_pos rfl])) (fun j hj => by
        unfold zfv zR zL zI
        show (match ztc (zTy a j) with | 4 => va_rf (Option.map _ (zup M.1.2.2.2 q b (some x) q j)) | 3 => _ | _ => _) = _
        rw [zup_at, if_neg hj]
        rfl)] at g1
      exact g1)
    exact h H1 _ lsA cells slots (zinv_set I hr g2 rfl rfl)
end SND2
