/-! all steps; a method's contract by its run -/
section SND7
variable {p : Program} {l : Launch} {e : Env} {R : Room} {s : State} {m : MethodId} {args : Array Value} {below : List Frame} {meth : Method} {c : Code} {Qf : State → Prop}
variable {D : va_G} {H0 : Heap} {xs : List Int32} {sv : Nat → Value} {dA : Nat → ClassId} {mi n0 s0 : Nat} {X : zX}
variable {pc len : Nat} {ls st : List Value} {M : zM} {a b k : Nat} {v : Value} {C : zC} {Bn Bs d : Nat} {Q : zQ}
set_option maxHeartbeats 8000000 in
theorem zstep (hX : X = zXW D H0 sv dA mi n0 s0 p l e R s m args below meth c Qf) (K : zctx D H0 xs sv dA mi p s m args meth c) (hBn : Bn = n0 + R.cells) (hBs : Bs = s0 + R.slots) (hR1 : d + 1 ≤ R.frames) (hR2 : 40 * (d + 1) ≤ R.locals) (hC : ∀ a M as Q, a < 283 → C a M as Q → zmet l D H0 xs sv dA d a M as Q)
    (hQ : zreti D H0 sv dA mi n0 s0 p l e R s m args below meth c Qf Q) {ins : Instr} (hchk : zokb mi (pc, len, ins, a, b, k, v) = true) (h : zop xs C Bn Bs Q X pc (pc + len) ins a b k v ls st M) : X pc ls st M := by
  unfold zokb at hchk
  rw [Bool.and_eq_true, decide_eq_true_eq] at hchk
  obtain ⟨hd, hk⟩ := hchk
  cases ins <;> simp only [zokI, Bool.and_eq_true, Bool.or_eq_true, decide_eq_true_eq] at hk <;> simp only [zop] at h
  all_goals first | cases hk; done | skip
  case iload i => obtain ⟨rfl, rfl⟩ := hk; exact zs_iload hX K hd h
  case iload_n i => obtain ⟨h1, rfl⟩ := hk; exact zs_iload_n hX K h1 hd h
  case aload i => obtain ⟨rfl, rfl⟩ := hk; exact zs_aload hX K hd h
  case aload_n i => obtain ⟨h1, rfl⟩ := hk; exact zs_aload_n hX K h1 hd h
  case lload_n i => obtain ⟨h1, rfl⟩ := hk; exact zs_lload_n hX K h1 hd h
  case istore i => obtain ⟨⟨⟨rfl, rfl⟩, h3⟩, h4⟩ := hk; exact zs_istore hX K hd h3 h4 h
  case istore_n i => obtain ⟨⟨⟨h1, rfl⟩, h3⟩, h4⟩ := hk; exact zs_istore_n hX K h1 hd h3 h4 h
  case astore i => obtain ⟨⟨⟨rfl, rfl⟩, h3⟩, h4⟩ := hk; exact zs_astore hX K hd h3 h4 h
  case astore_n i => obtain ⟨⟨⟨h1, rfl⟩, h3⟩, h4⟩ := hk; exact zs_astore_n hX K h1 hd h3 h4 h
  case iinc i n => obtain ⟨⟨⟨⟨rfl, rfl⟩, h3⟩, h4⟩, h5⟩ := hk; exact zs_iinc hX K hd h3 h4 h5 h
  case iconst n => obtain ⟨rfl, rfl⟩ := hk; exact zs_const hX (fun H locs cells slots lsA r _ g => lv_iconst K.1 K.2.1 hd rfl g) K h
  case bipush n => obtain ⟨rfl, rfl⟩ := hk; exact zs_const hX (fun H locs cells slots lsA r _ g => lv_bipush K.1 K.2.1 hd rfl g) K h
  case sipush n => obtain ⟨rfl, rfl⟩ := hk; exact zs_const hX (fun H locs cells slots lsA r _ g => lv_sipush K.1 K.2.1 hd rfl g) K h
  case lconst n => obtain ⟨rfl, rfl⟩ := hk; exact zs_const hX (fun H locs cells slots lsA r _ g => lv_lconst K.1 K.2.1 hd rfl g) K h
  case ldc i =>
    obtain ⟨rfl, hk⟩ := hk
    cases v with
    | int x => exact zs_const hX (fun H locs cells slots lsA r _ g => lv_ldc K.1 K.2.1 (zK_own K) (zK_ts K _ (zkq_in hk)) hd g) K h
    | retAddr q =>
      simp only [Bool.and_eq_true, Bool.or_eq_true, decide_eq_true_eq] at hk
      have hE := zK_env K
      rcases hk with ⟨⟨rfl, h5⟩, rfl⟩ | ⟨⟨rfl, h5⟩, rfl⟩
      · obtain ⟨t, et, hR⟩ := hE.2.2.2.2.1
        refine zs_const hX (fun H locs cells slots lsA r _ g => ?_) K h
        have hz : zcv H0.size sv (.retAddr 3) = .ref t := et
        rw [hz] at g
        refine va_ldcS K.1 K.2.1 (own := RX5) ?_ hR hd g
        have := zK_own K
        rw [show zow mi = zcn.getD (zoc mi) "" from rfl, h5] at this
        exact this
      · obtain ⟨t, et, hR⟩ := hE.2.2.2.2.2.1
        refine zs_const hX (fun H locs cells slots lsA r _ g => ?_) K h
        have hz : zcv H0.size sv (.retAddr 4) = .ref t := et
        rw [hz] at g
        refine va_ldcS K.1 K.2.1 (own := RX5) ?_ hR hd g
        have := zK_own K
        rw [show zow mi = zcn.getD (zoc mi) "" from rfl, h5] at this
        exact this
    | _ => cases hk
  case ldc_w i =>
    obtain ⟨rfl, hk⟩ := hk
    cases v with
    | int x => exact zs_const hX (fun H locs cells slots lsA r _ g => lv_ldcw K.1 K.2.1 (zK_own K) (zK_ts K _ (zkq_in hk)) hd g) K h
    | _ => cases hk
  case ldc2_w i =>
    obtain ⟨rfl, hk⟩ := hk
    cases v with
    | long x => exact zs_const hX (fun H locs cells slots lsA r _ g => lv_ldc2 K.1 K.2.1 (zK_own K) (zK_ts K _ (zlq_in hk)) hd g) K h
    | _ => cases hk
  case getstatic i =>
    obtain ⟨rfl, hk⟩ := hk
    have hE := zK_env K
    have ho := zK_own K
    rw [show zow mi = zcn.getD (zoc mi) "" from rfl] at ho
    have hw := zst_b
    simp only [Bool.and_eq_true] at hw
    rcases hk with (⟨⟨rfl, h5⟩, rfl⟩ | ⟨⟨rfl, h5⟩, rfl⟩) | ⟨⟨rfl, h5⟩, rfl⟩
    · rw [h5] at ho
      exact zs_const hX (fun H locs cells slots lsA r hS g => va_getsN (own := RX4) K.1 K.2.1 (hE.2.2.2.2.2.2.2.2.1.kept (zK_kept K)) hS ho (va_Nw.use rfl hE.2.2.1) (fun _ h9 => h9) hd g) K h
    · rw [h5] at ho
      exact zs_const hX (fun H locs cells slots lsA r hS g => va_gets (own := RJ0) K.1 K.2.1 (hE.2.2.2.2.2.2.1.kept (zK_kept K)) hS ho (zK_ts K _ (zwd_in hw.1)) (fun _ h9 => h9) hd g) K h
    · rw [h5] at ho
      exact zs_const hX (fun H locs cells slots lsA r hS g => va_gets (own := RJ0) K.1 K.2.1 (hE.2.2.2.2.2.2.2.1.kept (zK_kept K)) hS ho (zK_ts K _ (zwd_in (of_decide_eq_true hw.2))) (fun _ h9 => h9) hd g) K h
  case iadd => subst hk; exact zs_bin hX (fun x y H locs cells slots lsA r g => lv_iadd K.1 K.2.1 hd g) h
  case isub => subst hk; exact zs_bin hX (fun x y H locs cells slots lsA r g => lv_isub K.1 K.2.1 hd g) h
  case imul => subst hk; exact zs_bin hX (fun x y H locs cells slots lsA r g => lv_imul K.1 K.2.1 hd g) h
  case iand => subst hk; exact zs_bin hX (fun x y H locs cells slots lsA r g => lv_iand K.1 K.2.1 hd g) h
  case ior => subst hk; exact zs_bin hX (fun x y H locs cells slots lsA r g => lv_ior K.1 K.2.1 hd g) h
  case ixor => subst hk; exact zs_bin hX (fun x y H locs cells slots lsA r g => lv_ixor K.1 K.2.1 hd g) h
  case ishl => subst hk; exact zs_bin hX (fun x y H locs cells slots lsA r g => lv_ishl K.1 K.2.1 hd g) h
  case ishr => subst hk; exact zs_bin hX (fun x y H locs cells slots lsA r g => lv_ishr K.1 K.2.1 hd g) h
  case iushr => subst hk; exact zs_bin hX (fun x y H locs cells slots lsA r g => lv_iushr K.1 K.2.1 hd rfl g) h
  case idiv => subst hk; exact zs_div hX (fun x y H locs cells slots lsA r q g => lv_idiv K.1 K.2.1 hd q g) h
  case irem => subst hk; exact zs_div hX (fun x y H locs cells slots lsA r q g => lv_irem K.1 K.2.1 hd q g) h
  case ineg => subst hk; exact zs_un hX (fun x H locs cells slots lsA r g => lv_ineg K.1 K.2.1 hd g) h
  case i2b => subst hk; exact zs_un hX (fun x H locs cells slots lsA r g => lv_i2b K.1 K.2.1 hd rfl g) h
  case i2c => subst hk; exact zs_un hX (fun x H locs cells slots lsA r g => lv_i2c K.1 K.2.1 hd rfl g) h
  case i2l => subst hk; exact zs_i2l hX K hd h
  case lcmp => subst hk; exact zs_lcmp hX K hd h
  case lor => subst hk; exact zs_lor hX K hd h
  case lshl => subst hk; exact zs_lshl hX K hd h
  case if_icmp q o => obtain ⟨rfl, h2⟩ := hk; exact zs_ic hX K hd h2 h
  case ifCond q o => obtain ⟨rfl, h2⟩ := hk; exact zs_if hX K hd h2 h
  case goto o => obtain ⟨rfl, h2⟩ := hk; exact zs_goto hX K hd h2 h
  case tableswitch dd lo hi os => obtain ⟨⟨⟨⟨h1, h2⟩, h3⟩, h4⟩, h5⟩ := hk; exact zs_table hX K hd h1 h2 h3 h4 h5 h
  case lookupswitch dd ps => obtain ⟨⟨h1, h2⟩, h3⟩ := hk; exact zs_lookup hX K hd h1 h2 h3 h
  case dup => subst hk; exact zs_dup hX K hd h
  case dup2 => subst hk; exact zs_dup2 hX K hd h
  case pop => subst hk; exact zs_pop hX K hd h
  case getfield i =>
    obtain ⟨⟨rfl, h2⟩, h3⟩ := hk
    have h3' : a = 99 ∨ (a < 9 ∧ b < (zcls a).2.2 ∧ k = ztc (zTy a b)) := h3.elim Or.inl (fun g => Or.inr ⟨g.1.1, g.1.2, g.2⟩)
    exact zs_getfield hX K hd h2 h3' h
  case putfield i =>
    obtain ⟨⟨⟨⟨⟨rfl, h2⟩, h3⟩, h4⟩, h5⟩, h6⟩ := hk
    exact zs_putfield hX K hd h2 h3 h4 h5 (h6.elim Or.inl (fun g => Or.inr ⟨g.1.1, g.1.2, g.2⟩)) h
  case iaload => subst hk; exact zs_iaload hX K hd h
  case baload => obtain ⟨rfl, h2⟩ := hk; exact zs_baload hX K h2 hd h
  case laload => subst hk; exact zs_laload hX K hd h
  case aaload => subst hk; exact zs_aaload hX K hd h
  case iastore => subst hk; exact zs_iastore hX K hd h
  case bastore => obtain ⟨rfl, h2⟩ := hk; exact zs_bastore hX K h2 hd h
  case lastore => subst hk; exact zs_lastore hX K hd h
  case aastore => subst hk; exact zs_aastore hX K hd h
  case arraylength => subst hk; exact zs_len hX K hd h
  case new i => obtain ⟨⟨⟨rfl, h2⟩, h3⟩, h4⟩ := hk; exact zs_new hX K hBn hBs hd h2 h3 h4 h
  case newarray t =>
    obtain ⟨rfl, h2⟩ := hk
    have h2' : (a = 0 ∧ t = .int) ∨ (a = 1 ∧ t = .byte) ∨ (a = 2 ∧ t = .boolean) ∨ (a = 3 ∧ t = .long) := by
      rcases h2 with ((g | g) | g) | g
      · exact Or.inl g
      · exact Or.inr (Or.inl g)
      · exact Or.inr (Or.inr (Or.inl g))
      · exact Or.inr (Or.inr (Or.inr g))
    exact zs_newarray hX K hBn hBs hd h2' h
  case anewarray i => obtain ⟨rfl, h2⟩ := hk; exact zs_anewarray hX K hBn hBs hd h2 h
  case invokevirtual i =>
    obtain ⟨⟨⟨⟨⟨⟨⟨⟨rfl, h1⟩, -⟩, h2⟩, h3⟩, h4⟩, h5⟩, h6⟩, h7⟩ := hk
    exact zs_virtual hX K hBn hBs hR1 hR2 hC hd h1 h2 h3 h4 h5 h6 h7 h
  case invokestatic i =>
    obtain ⟨rfl, hk⟩ := hk
    split at h
    next => exact zs_copy hX K (by omega) (by omega) hd hk h
    next k hk8 =>
      split at hk
      next => exact absurd rfl hk8
      next =>
        simp only [Bool.and_eq_true, Bool.or_eq_true, decide_eq_true_eq] at hk
        obtain ⟨⟨⟨⟨h2, h3⟩, h4⟩, h5⟩, h6⟩ := hk
        exact zs_static hX K hBn hBs hR1 hR2 hC hd h2 h3 h4 h5 h6 h
  case invokespecial i =>
    obtain ⟨rfl, hk⟩ := hk
    split at h
    next => exact zs_objinit hX K (by omega) (by omega) hd hk h
    next k hk9 =>
      split at hk
      next => exact absurd rfl hk9
      next =>
        simp only [Bool.and_eq_true, Bool.or_eq_true, decide_eq_true_eq] at hk
        obtain ⟨⟨⟨⟨⟨h1, h2⟩, h3⟩, h4⟩, h5⟩, h6⟩ := hk
        exact zs_special hX K hBn hBs hR1 hR2 hC hd h1 h2 h3 h4 h5 h6 h
  case ireturn =>
    obtain ⟨rfl, hk⟩ := hk
    obtain ⟨x, rfl, z2, z5, z1, hq⟩ := zri_e h
    subst hX
    intro H locs lsA cells slots I
    rcases hk with ((⟨g1, g2⟩ | ⟨g1, g2⟩) | ⟨g1, g2⟩) | ⟨g1, g2⟩
    · exact hQ.1 x M pc .boolean H locs lsA cells slots ls hq I hd g2 (zbool_ok (z2 g1)).1
    · exact hQ.1 x M pc .char H locs lsA cells slots ls hq I hd g2 (z5 g1)
    · exact hQ.1 x M pc .byte H locs lsA cells slots ls hq I hd g2 (z1 g1)
    · exact hQ.1 x M pc .int H locs lsA cells slots ls hq I hd g2 rfl
  case areturn =>
    obtain ⟨rfl, hk⟩ := hk
    obtain ⟨x, rfl, hq⟩ := zra_e h
    subst hX
    intro H locs lsA cells slots I
    exact hQ.2.1 x M pc _ H locs lsA cells slots ls hq I hd hk
  case return_ =>
    obtain ⟨rfl, hk⟩ := hk
    obtain ⟨rfl, hq⟩ := zrv_e h
    subst hX
    intro H locs lsA cells slots I
    exact hQ.2.2 M pc H locs lsA cells slots ls hq I hd hk
theorem zfind_mem : ∀ {cd : List zE} {e : zE}, zfind cd pc = some e → e ∈ cd ∧ e.1 = pc
  | [], e, h => by cases h
  | x :: cd, e, h => by
    unfold zfind at h
    split at h
    next hb => cases h; exact ⟨List.mem_cons_self, Nat.eq_of_beq_eq_true hb⟩
    · obtain ⟨h1, h2⟩ := zfind_mem h
      exact ⟨List.mem_cons_of_mem _ h1, h2⟩
theorem zat_sound (hX : X = zXW D H0 sv dA mi n0 s0 p l e R s m args below meth c Qf) (K : zctx D H0 xs sv dA mi p s m args meth c) (hBn : Bn = n0 + R.cells) (hBs : Bs = s0 + R.slots) (hR1 : d + 1 ≤ R.frames) (hR2 : 40 * (d + 1) ≤ R.locals) (hC : ∀ a M as Q, a < 283 → C a M as Q → zmet l D H0 xs sv dA d a M as Q)
    (hQ : zreti D H0 sv dA mi n0 s0 p l e R s m args below meth c Qf Q) (hchk : ∀ e ∈ zcode mi, zokb mi e = true) (h : zat xs C Bn Bs (zcode mi) Q X pc ls st M) : X pc ls st M := by
  unfold zat at h
  split at h
  next p' len ins a b k v hf =>
    obtain ⟨h1, h2⟩ := zfind_mem hf
    have h2' : p' = pc := h2
    subst h2'
    exact zstep hX K hBn hBs hR1 hR2 hC hQ (hchk _ h1) h
  · exact h.elim
theorem zgo_sound (K : zctx D H0 xs sv dA mi p s m args meth c) (hBn : Bn = n0 + R.cells) (hBs : Bs = s0 + R.slots) (hR1 : d + 1 ≤ R.frames) (hR2 : 40 * (d + 1) ≤ R.locals) (hC : ∀ a M as Q, a < 283 → C a M as Q → zmet l D H0 xs sv dA d a M as Q)
    (hQ : zreti D H0 sv dA mi n0 s0 p l e R s m args below meth c Qf Q) (hchk : ∀ e ∈ zcode mi, zokb mi e = true) (h : zgo xs C Bn Bs (zcode mi) Q pc ls st M) : zXW D H0 sv dA mi n0 s0 p l e R s m args below meth c Qf pc ls st M := h _ fun _ _ _ _ g => zat_sound rfl K hBn hBs hR1 hR2 hC hQ hchk g
end SND7
