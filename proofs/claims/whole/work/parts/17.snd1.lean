/-! one step of the abstract machine is one of the machine: loads, stores, numbers, branches -/
section SND
variable {p : Program} {l : Launch} {e : Env} {R : Room} {s : State} {m : MethodId} {args : Array Value} {below : List Frame} {meth : Method} {c : Code} {Qf : State → Prop}
variable {D : va_G} {H0 : Heap} {xs : List Int32} {sv : Nat → Value} {dA : Nat → ClassId} {mi n0 s0 : Nat} {X : zX}
variable {pc : Nat} {ls st : List Value} {M : zM} {a : Nat} {v : Value}
theorem zs_iload (hX : X = zXW D H0 sv dA mi n0 s0 p l e R s m args below meth c Qf) (K : zctx D H0 xs sv dA mi p s m args meth c) (hd : decode (zbs mi) pc = .ok (.iload a, 2)) (h : zldi X (pc + 2) ls a st M) : X pc ls st M := by
  subst hX
  obtain ⟨x, hx, h⟩ := zldi_e h
  intro H locs lsA cells slots I
  exact lv_iload K.1 K.2.1 hd (zlv_get I.2.2.1 hx (fun q => by cases q)) (h H locs lsA cells slots I)
theorem zs_iload_n (hX : X = zXW D H0 sv dA mi n0 s0 p l e R s m args below meth c Qf) (K : zctx D H0 xs sv dA mi p s m args meth c) {k : Fin 4} (hk : a = k.val) (hd : decode (zbs mi) pc = .ok (.iload_n k, 1)) (h : zldi X (pc + 1) ls a st M) : X pc ls st M := by
  subst hX
  obtain ⟨x, hx, h⟩ := zldi_e h
  intro H locs lsA cells slots I
  exact lv_iload_n K.1 K.2.1 hd hk.symm (zlv_get I.2.2.1 hx (fun q => by cases q)) (h H locs lsA cells slots I)
theorem zs_lload_n (hX : X = zXW D H0 sv dA mi n0 s0 p l e R s m args below meth c Qf) (K : zctx D H0 xs sv dA mi p s m args meth c) {k : Fin 4} (hk : a = k.val) (hd : decode (zbs mi) pc = .ok (.lload_n k, 1)) (h : zldl X (pc + 1) ls a st M) : X pc ls st M := by
  subst hX
  obtain ⟨x, hx, h⟩ := zldl_e h
  intro H locs lsA cells slots I
  exact lv_lload_n K.1 K.2.1 hd hk.symm (zlv_get I.2.2.1 hx (fun q => by cases q)) (h H locs lsA cells slots I)
/-- what is only read, but for the seventh, is a reference -/
theorem zsv_ref (K : zctx D H0 xs sv dA mi p s m args meth c) {k : Nat} (h1 : 1 ≤ k) (h2 : k ≤ 6) : ∃ t, sv k = .ref t := by
  obtain ⟨-, -, -, -, -, -, -, -, hE, -⟩ := K
  obtain ⟨-, -, -, -, ⟨a5, e5, -⟩, ⟨a6, e6, -⟩, -, -, -, h10, -⟩ := hE
  match k, h1, h2 with
  | 1, _, _ => obtain ⟨t, g, -⟩ := h10 1 0 xs rfl; exact ⟨t, g⟩
  | 2, _, _ => obtain ⟨t, g, -⟩ := h10 2 0 zfacts rfl; exact ⟨t, g⟩
  | 3, _, _ => exact ⟨a5, e5⟩
  | 4, _, _ => exact ⟨a6, e6⟩
  | 5, _, _ => obtain ⟨t, g, -⟩ := h10 5 1 zwords rfl; exact ⟨t, g⟩
  | 6, _, _ => obtain ⟨t, g, -⟩ := h10 6 1 zsigns rfl; exact ⟨t, g⟩
  | k + 7, _, h => omega
theorem zs_aload (hX : X = zXW D H0 sv dA mi n0 s0 p l e R s m args below meth c Qf) (K : zctx D H0 xs sv dA mi p s m args meth c) (hd : decode (zbs mi) pc = .ok (.aload a, 2)) (h : zlda X (pc + 2) ls a st M) : X pc ls st M := by
  subst hX
  intro H locs lsA cells slots I
  rcases zlda_e h with ⟨x, hx, h⟩ | ⟨k, h1, h2, hx, h⟩
  · exact lv_aload K.1 K.2.1 hd (zlv_get I.2.2.1 hx (fun q => by cases q)) (h H locs lsA cells slots I)
  · obtain ⟨t, ht⟩ := zsv_ref K h1 h2
    have hg := zlv_get I.2.2.1 hx (fun q => by injection q; omega)
    have hz : zcv H0.size sv (.retAddr k) = .ref t := ht
    rw [hz] at hg
    have hw := h H locs lsA cells slots I
    rw [List.map_cons, hz] at hw
    exact lv_aload K.1 K.2.1 hd hg hw
theorem zs_aload_n (hX : X = zXW D H0 sv dA mi n0 s0 p l e R s m args below meth c Qf) (K : zctx D H0 xs sv dA mi p s m args meth c) {k : Fin 4} (hk : a = k.val) (hd : decode (zbs mi) pc = .ok (.aload_n k, 1)) (h : zlda X (pc + 1) ls a st M) : X pc ls st M := by
  subst hX
  intro H locs lsA cells slots I
  rcases zlda_e h with ⟨x, hx, h⟩ | ⟨k, h1, h2, hx, h⟩
  · exact lv_aload_n K.1 K.2.1 hd hk.symm (zlv_get I.2.2.1 hx (fun q => by cases q)) (h H locs lsA cells slots I)
  · obtain ⟨t, ht⟩ := zsv_ref K h1 h2
    have hg := zlv_get I.2.2.1 hx (fun q => by injection q; omega)
    have hz : zcv H0.size sv (.retAddr k) = .ref t := ht
    rw [hz] at hg
    have hw := h H locs lsA cells slots I
    rw [List.map_cons, hz] at hw
    exact lv_aload_n K.1 K.2.1 hd hk.symm hg hw
theorem zK_sv (K : zctx D H0 xs sv dA mi p s m args meth c) : ∀ k, (sv k).category = 1 := K.2.2.2.2.2.2.2.2.2.2.2
theorem zinv_loc {H : Heap} {locs : List Loc} {lsA lsB : Array Slot} {cells slots : Nat} {lt : List Value} (I : zinv D H0 sv dA mi n0 s0 R s H locs lsA cells slots ls M) (h1 : zlv H0.size sv lsB (znl mi) lt) (h2 : zflc lt = true) : zinv D H0 sv dA mi n0 s0 R s H locs lsB cells slots lt M := ⟨I.1, I.2.1, h1, fun _ => h2, I.2.2.2.2⟩
theorem zs_istore (hX : X = zXW D H0 sv dA mi n0 s0 p l e R s m args below meth c Qf) (K : zctx D H0 xs sv dA mi p s m args meth c) (hd : decode (zbs mi) pc = .ok (.istore a, 2)) (ha : a < znl mi) (hg : zlg mi = true) (h : zsti X (pc + 2) ls a st M) : X pc ls st M := by
  subst hX
  obtain ⟨x, r, rfl, h⟩ := zsti_e h
  intro H locs lsA cells slots I
  exact lv_istore (x := x) K.1 K.2.1 hd (zlv_has I.2.2.1) ha rfl fun lsB hB => h H locs lsB cells slots (zinv_loc I (zlv_set (zK_sv K) I.2.2.1 (I.2.2.2.1 hg) hB) (zflc_set (I.2.2.2.1 hg) rfl))
theorem zs_istore_n (hX : X = zXW D H0 sv dA mi n0 s0 p l e R s m args below meth c Qf) (K : zctx D H0 xs sv dA mi p s m args meth c) {k : Fin 4} (hk : a = k.val) (hd : decode (zbs mi) pc = .ok (.istore_n k, 1)) (ha : a < znl mi) (hg : zlg mi = true) (h : zsti X (pc + 1) ls a st M) : X pc ls st M := by
  subst hX
  obtain ⟨x, r, rfl, h⟩ := zsti_e h
  intro H locs lsA cells slots I
  exact lv_istore_n (x := x) K.1 K.2.1 hd hk.symm (zlv_has I.2.2.1) ha rfl fun lsB hB => h H locs lsB cells slots (zinv_loc I (zlv_set (zK_sv K) I.2.2.1 (I.2.2.2.1 hg) hB) (zflc_set (I.2.2.2.1 hg) rfl))
theorem zs_astore (hX : X = zXW D H0 sv dA mi n0 s0 p l e R s m args below meth c Qf) (K : zctx D H0 xs sv dA mi p s m args meth c) (hd : decode (zbs mi) pc = .ok (.astore a, 2)) (ha : a < znl mi) (hg : zlg mi = true) (h : zsta X (pc + 2) ls a st M) : X pc ls st M := by
  subst hX
  obtain ⟨x, r, rfl, h⟩ := zsta_e h
  intro H locs lsA cells slots I
  exact lv_astore (x := H0.size + x) K.1 K.2.1 hd (zlv_has I.2.2.1) ha rfl fun lsB hB => h H locs lsB cells slots (zinv_loc I (zlv_set (v := .ref x) (zK_sv K) I.2.2.1 (I.2.2.2.1 hg) hB) (zflc_set (I.2.2.2.1 hg) rfl))
theorem zs_astore_n (hX : X = zXW D H0 sv dA mi n0 s0 p l e R s m args below meth c Qf) (K : zctx D H0 xs sv dA mi p s m args meth c) {k : Fin 4} (hk : a = k.val) (hd : decode (zbs mi) pc = .ok (.astore_n k, 1)) (ha : a < znl mi) (hg : zlg mi = true) (h : zsta X (pc + 1) ls a st M) : X pc ls st M := by
  subst hX
  obtain ⟨x, r, rfl, h⟩ := zsta_e h
  intro H locs lsA cells slots I
  exact lv_astore_n (x := H0.size + x) K.1 K.2.1 hd hk.symm (zlv_has I.2.2.1) ha rfl fun lsB hB => h H locs lsB cells slots (zinv_loc I (zlv_set (v := .ref x) (zK_sv K) I.2.2.1 (I.2.2.2.1 hg) hB) (zflc_set (I.2.2.2.1 hg) rfl))
theorem zs_iinc (hX : X = zXW D H0 sv dA mi n0 s0 p l e R s m args below meth c Qf) (K : zctx D H0 xs sv dA mi p s m args meth c) {k : Int} (hd : decode (zbs mi) pc = .ok (.iinc a k, 3)) (ha : a < znl mi) (hg : zlg mi = true) (hv : v = .int (Int32.ofInt k)) (h : zinc X (pc + 3) ls a v st M) : X pc ls st M := by
  subst hX
  obtain ⟨x, w, hx, hw, h⟩ := zinc_e h
  have ew : Int32.ofInt k = w := by rw [hv] at hw; injection hw
  intro H locs lsA cells slots I
  have hl := zlv_has I.2.2.1
  have hm : (a, Value.int x) ∈ zprs H0.size sv ls := by
    refine zprs_mem.mpr ⟨.int x, ?_, fun q => (by cases q), rfl⟩
    rw [List.getD_eq_getElem?_getD] at hx
    cases hq : ls[a]? with
    | none => rw [hq] at hx; cases hx
    | some u => rw [hq] at hx; exact congrArg some hx
  obtain ⟨j, hj⟩ := List.getElem?_of_mem hm
  exact lv_iinc (k := j) (v := x + w) K.1 K.2.1 hd hl hj (by rw [ew]) ha rfl fun lsB hB => h H locs lsB cells slots (zinv_loc I (zlv_set (v := .int (x + w)) (zK_sv K) I.2.2.1 (I.2.2.2.1 hg) hB) (zflc_set (I.2.2.2.1 hg) rfl))
theorem zs_bin {f : Int32 → Int32 → Int32} (hX : X = zXW D H0 sv dA mi n0 s0 p l e R s m args below meth c Qf)
    (row : ∀ (x y : Int32) (H : Heap) (locs : List Loc) (cells slots : Nat) (lsA : Array Slot) (r : List Value), W p l e R s m args below meth c H locs cells slots Qf (F0 m (pc + 1) lsA (.int (f x y) :: r)) → W p l e R s m args below meth c H locs cells slots Qf (F0 m pc lsA (.int y :: .int x :: r)))
    (h : zbin f X (pc + 1) ls st M) : X pc ls st M := by
  subst hX
  obtain ⟨y, x, r, rfl, h⟩ := zbin_e h
  intro H locs lsA cells slots I
  exact row x y H locs cells slots lsA _ (h H locs lsA cells slots I)
theorem zs_un {f : Int32 → Int32} (hX : X = zXW D H0 sv dA mi n0 s0 p l e R s m args below meth c Qf)
    (row : ∀ (x : Int32) (H : Heap) (locs : List Loc) (cells slots : Nat) (lsA : Array Slot) (r : List Value), W p l e R s m args below meth c H locs cells slots Qf (F0 m (pc + 1) lsA (.int (f x) :: r)) → W p l e R s m args below meth c H locs cells slots Qf (F0 m pc lsA (.int x :: r)))
    (h : zun f X (pc + 1) ls st M) : X pc ls st M := by
  subst hX
  obtain ⟨x, r, rfl, h⟩ := zun_e h
  intro H locs lsA cells slots I
  exact row x H locs cells slots lsA _ (h H locs lsA cells slots I)
theorem zs_div {f : Int32 → Int32 → Int32} (hX : X = zXW D H0 sv dA mi n0 s0 p l e R s m args below meth c Qf)
    (row : ∀ (x y : Int32) (H : Heap) (locs : List Loc) (cells slots : Nat) (lsA : Array Slot) (r : List Value), ¬ y = 0 → W p l e R s m args below meth c H locs cells slots Qf (F0 m (pc + 1) lsA (.int (f x y) :: r)) → W p l e R s m args below meth c H locs cells slots Qf (F0 m pc lsA (.int y :: .int x :: r)))
    (h : zdiv f X (pc + 1) ls st M) : X pc ls st M := by
  subst hX
  obtain ⟨y, x, r, rfl, hy, h⟩ := zdiv_e h
  intro H locs lsA cells slots I
  exact row x y H locs cells slots lsA _ hy (h H locs lsA cells slots I)
theorem zs_lcmp (hX : X = zXW D H0 sv dA mi n0 s0 p l e R s m args below meth c Qf) (K : zctx D H0 xs sv dA mi p s m args meth c) (hd : decode (zbs mi) pc = .ok (.lcmp, 1)) (h : zlcm X (pc + 1) ls st M) : X pc ls st M := by
  subst hX
  obtain ⟨y, x, r, rfl, h⟩ := zlcm_e h
  intro H locs lsA cells slots I
  exact W.lcmp K.1 K.2.1 hd (h H locs lsA cells slots I)
theorem zs_lor (hX : X = zXW D H0 sv dA mi n0 s0 p l e R s m args below meth c Qf) (K : zctx D H0 xs sv dA mi p s m args meth c) (hd : decode (zbs mi) pc = .ok (.lor, 1)) (h : zlor X (pc + 1) ls st M) : X pc ls st M := by
  subst hX
  obtain ⟨y, x, r, rfl, h⟩ := zlor_e h
  intro H locs lsA cells slots I
  exact lv_lor K.1 K.2.1 hd (h H locs lsA cells slots I)
theorem zs_lshl (hX : X = zXW D H0 sv dA mi n0 s0 p l e R s m args below meth c Qf) (K : zctx D H0 xs sv dA mi p s m args meth c) (hd : decode (zbs mi) pc = .ok (.lshl, 1)) (h : zlsh X (pc + 1) ls st M) : X pc ls st M := by
  subst hX
  obtain ⟨y, x, r, rfl, h⟩ := zlsh_e h
  intro H locs lsA cells slots I
  exact lv_lshl K.1 K.2.1 hd rfl (h H locs lsA cells slots I)
theorem zs_i2l (hX : X = zXW D H0 sv dA mi n0 s0 p l e R s m args below meth c Qf) (K : zctx D H0 xs sv dA mi p s m args meth c) (hd : decode (zbs mi) pc = .ok (.i2l, 1)) (h : zi2l X (pc + 1) ls st M) : X pc ls st M := by
  subst hX
  obtain ⟨x, r, rfl, h⟩ := zi2l_e h
  intro H locs lsA cells slots I
  exact lv_i2l K.1 K.2.1 hd rfl (h H locs lsA cells slots I)
theorem zs_ic (hX : X = zXW D H0 sv dA mi n0 s0 p l e R s m args below meth c Qf) (K : zctx D H0 xs sv dA mi p s m args meth c) {k : ClassFile.Cond} {o : Int} (hd : decode (zbs mi) pc = .ok (.if_icmp k o, 3)) (ht : (pc : Int) + o = (a : Int)) (h : zic k X a (pc + 3) ls st M) : X pc ls st M := by
  subst hX
  obtain ⟨y, x, r, rfl, g⟩ := zic_e h
  intro H locs lsA cells slots I
  cases k
  · exact lv_icmp_eq K.1 K.2.1 hd ht (fun q => g.1 q H locs lsA cells slots I) (fun q => g.2 q H locs lsA cells slots I)
  · exact lv_icmp_ne K.1 K.2.1 hd ht (fun q => g.2 q H locs lsA cells slots I) (fun q => g.1 q H locs lsA cells slots I)
  · exact lv_icmp_lt K.1 K.2.1 hd ht (fun q => g.1 q H locs lsA cells slots I) (fun q => g.2 q H locs lsA cells slots I)
  · exact lv_icmp_ge K.1 K.2.1 hd ht (fun q => g.2 (Int32.not_lt.mpr q) H locs lsA cells slots I) (fun q => g.1 (Int32.not_le.mp q) H locs lsA cells slots I)
  · exact lv_icmp_gt K.1 K.2.1 hd ht (fun q => g.1 q H locs lsA cells slots I) (fun q => g.2 q H locs lsA cells slots I)
  · exact lv_icmp_le K.1 K.2.1 hd ht (fun q => g.2 (Int32.not_lt.mpr q) H locs lsA cells slots I) (fun q => g.1 (Int32.not_le.mp q) H locs lsA cells slots I)
theorem zs_if (hX : X = zXW D H0 sv dA mi n0 s0 p l e R s m args below meth c Qf) (K : zctx D H0 xs sv dA mi p s m args meth c) {k : ClassFile.Cond} {o : Int} (hd : decode (zbs mi) pc = .ok (.ifCond k o, 3)) (ht : (pc : Int) + o = (a : Int)) (h : zif k X a (pc + 3) ls st M) : X pc ls st M := by
  subst hX
  obtain ⟨x, r, rfl, g⟩ := zif_e h
  intro H locs lsA cells slots I
  cases k
  · exact lv_if_eq K.1 K.2.1 hd ht (fun q => g.1 q H locs lsA cells slots I) (fun q => g.2 q H locs lsA cells slots I)
  · exact lv_if_ne K.1 K.2.1 hd ht (fun q => g.2 q H locs lsA cells slots I) (fun q => g.1 q H locs lsA cells slots I)
  · exact lv_if_lt K.1 K.2.1 hd ht (fun q => g.1 q H locs lsA cells slots I) (fun q => g.2 q H locs lsA cells slots I)
  · exact lv_if_ge K.1 K.2.1 hd ht (fun q => g.2 (Int32.not_lt.mpr q) H locs lsA cells slots I) (fun q => g.1 (Int32.not_le.mp q) H locs lsA cells slots I)
  · exact lv_if_gt K.1 K.2.1 hd ht (fun q => g.1 q H locs lsA cells slots I) (fun q => g.2 q H locs lsA cells slots I)
  · exact lv_if_le K.1 K.2.1 hd ht (fun q => g.2 (Int32.not_lt.mpr q) H locs lsA cells slots I) (fun q => g.1 (Int32.not_le.mp q) H locs lsA cells slots I)
theorem zs_goto (hX : X = zXW D H0 sv dA mi n0 s0 p l e R s m args below meth c Qf) (K : zctx D H0 xs sv dA mi p s m args meth c) {o : Int} (hd : decode (zbs mi) pc = .ok (.goto o, 3)) (ht : (pc : Int) + o = (a : Int)) (h : X a ls st M) : X pc ls st M := by
  subst hX
  intro H locs lsA cells slots I
  exact lv_goto K.1 K.2.1 hd ht (h H locs lsA cells slots I)
theorem zint_eq {x : Int32} {k : Int} (h1 : -1000 ≤ k) (h2 : k ≤ 1000) : x = Int32.ofInt k ↔ x.toInt = k := by
  have e : (Int32.ofInt k).toInt = k := Int32.toInt_ofInt_of_le (by omega) (by omega)
  constructor
  · intro h; rw [h, e]
  · intro h; exact Int32.toInt_inj.mp (by rw [e, h])
theorem ztab_in {P : Nat → Prop} {d pc : Nat} {x : Int32} : ∀ (os : List Int) (lo : Int), -1000 ≤ lo → lo + os.length ≤ 1001 → zsw x P d (ztab pc lo os) → (∀ o, lo ≤ x.toInt → os[(x.toInt - lo).toNat]? = some o → P ((pc : Int) + o).toNat) ∧ (x.toInt < lo ∨ lo + os.length ≤ x.toInt → P d)
  | [], lo, _, _, h => ⟨fun o _ ho => by simp at ho, fun _ => h⟩
  | o :: os, lo, h1, h2, h => by
    have h2' : lo + 1 + (os.length : Int) ≤ 1001 := by simp only [List.length_cons] at h2; omega
    obtain ⟨g1, g2⟩ := zdec_e h
    have hk := zint_eq (x := x) (k := lo) h1 (by simp only [List.length_cons] at h2; omega)
    refine ⟨fun o' hl ho => ?_, fun hd => ?_⟩
    · by_cases q : x.toInt = lo
      · rw [show (x.toInt - lo).toNat = 0 by omega] at ho
        cases ho
        exact g1 (hk.mpr q)
      · have ih := ztab_in os (lo + 1) (by omega) h2' (g2 (fun z => q (hk.mp z)))
        refine ih.1 o' (by omega) ?_
        rw [show (x.toInt - lo).toNat = (x.toInt - (lo + 1)).toNat + 1 by omega] at ho
        exact ho
    · have q : ¬ x.toInt = lo := by simp only [List.length_cons] at hd; omega
      have ih := ztab_in os (lo + 1) (by omega) h2' (g2 (fun z => q (hk.mp z)))
      refine ih.2 ?_
      simp only [List.length_cons] at hd
      omega
theorem zs_table (hX : X = zXW D H0 sv dA mi n0 s0 p l e R s m args below meth c Qf) (K : zctx D H0 xs sv dA mi p s m args meth c) {d lo hi : Int} {os : Array Int} {len : Nat} (hd : decode (zbs mi) pc = .ok (.tableswitch d lo hi os, len)) (g1 : 0 ≤ (pc : Int) + d) (g2 : os.toList.all (fun o => decide (0 ≤ (pc : Int) + o)) = true) (g3 : hi - lo + 1 = (os.toList.length : Int)) (g4 : -1000 ≤ lo) (g5 : hi ≤ 1000) (h : zsws (ztab pc lo os.toList) ((pc : Int) + d).toNat X ls st M) : X pc ls st M := by
  subst hX
  obtain ⟨x, r, rfl, h⟩ := zsws_e h
  obtain ⟨h1, h2⟩ := ztab_in os.toList lo g4 (by omega) h
  intro H locs lsA cells slots I
  by_cases q : x.toInt < lo ∨ hi < x.toInt
  · exact lv_tableOut (tgt := ((pc : Int) + d).toNat) K.1 K.2.1 hd q (by omega) (h2 (by omega) H locs lsA cells slots I)
  · have hlt : (x.toInt - lo).toNat < os.toList.length := by omega
    have ho : os.toList[(x.toInt - lo).toNat]? = some os.toList[(x.toInt - lo).toNat] := List.getElem?_eq_getElem hlt
    have hp := of_decide_eq_true (List.all_eq_true.mp g2 _ (List.getElem_mem hlt))
    exact lv_tableIn (tgt := ((pc : Int) + os.toList[(x.toInt - lo).toNat]).toNat) K.1 K.2.1 hd (fun z => q (Or.inl z)) (fun z => q (Or.inr z)) (by rw [← Array.getElem?_toList]; exact ho) (by omega) (h1 _ (by omega) ho H locs lsA cells slots I)
theorem zloo_in {P : Nat → Prop} {d : Int} {pc : Nat} {x : Int32} : ∀ (ps : List (Int × Int)), ps.all (fun o => decide (0 ≤ (pc : Int) + o.2) && decide (-1000 ≤ o.1) && decide (o.1 ≤ 1000)) = true → zsw x P ((pc : Int) + d).toNat (zloo pc ps) → P ((pc : Int) + Op.lookupswitch.offset ps d x.toInt).toNat
  | [], _, h => h
  | q :: ps, ha, h => by
    obtain ⟨k, o⟩ := q
    obtain ⟨g1, g2⟩ := zdec_e h
    rw [List.all_cons, Bool.and_eq_true] at ha
    simp only [Bool.and_eq_true, decide_eq_true_eq] at ha
    have hk := zint_eq (x := x) (k := k) ha.1.1.2 ha.1.2
    rw [Op.lookupswitch.offset_cons]
    by_cases z : k = x.toInt
    · rw [if_pos z]
      exact g1 (hk.mpr z.symm)
    · rw [if_neg z]
      exact zloo_in ps (by simpa only [Bool.and_eq_true, decide_eq_true_eq] using ha.2) (g2 (fun w => z (hk.mp w).symm))
theorem zoff_in {d : Int} {x : Int} {pc : Nat} (hd : 0 ≤ (pc : Int) + d) : ∀ (ps : List (Int × Int)), ps.all (fun o => decide (0 ≤ (pc : Int) + o.2) && decide (-1000 ≤ o.1) && decide (o.1 ≤ 1000)) = true → 0 ≤ (pc : Int) + Op.lookupswitch.offset ps d x
  | [], _ => hd
  | q :: ps, ha => by
    obtain ⟨k, o⟩ := q
    rw [List.all_cons, Bool.and_eq_true] at ha
    simp only [Bool.and_eq_true, decide_eq_true_eq] at ha
    rw [Op.lookupswitch.offset_cons]
    by_cases z : k = x
    · rw [if_pos z]; exact ha.1.1.1
    · rw [if_neg z]
      exact zoff_in hd ps (by simpa only [Bool.and_eq_true, decide_eq_true_eq] using ha.2)
theorem zs_lookup (hX : X = zXW D H0 sv dA mi n0 s0 p l e R s m args below meth c Qf) (K : zctx D H0 xs sv dA mi p s m args meth c) {d : Int} {ps : Array (Int × Int)} {len : Nat} (hd : decode (zbs mi) pc = .ok (.lookupswitch d ps, len)) (g1 : 0 ≤ (pc : Int) + d) (g2 : ps.toList.all (fun o => decide (0 ≤ (pc : Int) + o.2) && decide (-1000 ≤ o.1) && decide (o.1 ≤ 1000)) = true) (g3 : (ps.toList.zip (ps.toList.drop 1)).all (fun (a, next) => decide (a.1 < next.1)) = true) (h : zsws (zloo pc ps.toList) ((pc : Int) + d).toNat X ls st M) : X pc ls st M := by
  subst hX
  obtain ⟨x, r, rfl, h⟩ := zsws_e h
  have h1 := zloo_in ps.toList g2 h
  have h2 := zoff_in (x := x.toInt) g1 ps.toList g2
  intro H locs lsA cells slots I
  exact lv_lookup (tgt := ((pc : Int) + Op.lookupswitch.offset ps.toList d x.toInt).toNat) K.1 K.2.1 hd g3 rfl (by omega) (h1 H locs lsA cells slots I)
theorem zs_dup (hX : X = zXW D H0 sv dA mi n0 s0 p l e R s m args below meth c Qf) (K : zctx D H0 xs sv dA mi p s m args meth c) (hd : decode (zbs mi) pc = .ok (.dup, 1)) (h : zdup X (pc + 1) ls st M) : X pc ls st M := by
  subst hX
  obtain ⟨w, r, rfl, -, hc, h⟩ := zdup_e h
  intro H locs lsA cells slots I
  exact lv_dup K.1 K.2.1 hd (hc _ _) (h H locs lsA cells slots I)
theorem zs_dup2 (hX : X = zXW D H0 sv dA mi n0 s0 p l e R s m args below meth c Qf) (K : zctx D H0 xs sv dA mi p s m args meth c) (hd : decode (zbs mi) pc = .ok (.dup2, 1)) (h : zdup2 X (pc + 1) ls st M) : X pc ls st M := by
  subst hX
  obtain ⟨x, y, r, rfl, h⟩ := zdup2_e h
  intro H locs lsA cells slots I
  exact lv_dup2_11 K.1 K.2.1 hd rfl rfl (h H locs lsA cells slots I)
theorem zs_pop (hX : X = zXW D H0 sv dA mi n0 s0 p l e R s m args below meth c Qf) (K : zctx D H0 xs sv dA mi p s m args meth c) (hd : decode (zbs mi) pc = .ok (.pop, 1)) (h : zpop X (pc + 1) ls st M) : X pc ls st M := by
  subst hX
  obtain ⟨w, r, rfl, hc, h⟩ := zpop_e h
  intro H locs lsA cells slots I
  exact lv_pop K.1 K.2.1 hd (hc _ _) (h H locs lsA cells slots I)
end SND
