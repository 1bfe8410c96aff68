/-! every method's contract -/
theorem zchk_r {n k : Nat} (h : ((List.range n).drop k).all (fun mi => (zcode mi).all (zokb mi)) = true) : ∀ a, k ≤ a → a < n → ∀ e ∈ zcode a, zokb a e = true := by
  intro a h1 h2 e he
  have hm : a ∈ (List.range n).drop k := by
    rw [List.mem_iff_getElem?]
    refine ⟨a - k, ?_⟩
    rw [List.getElem?_drop, show k + (a - k) = a by omega, List.getElem?_range h2]
  exact List.all_eq_true.mp (List.all_eq_true.mp h a hm) e he
theorem zchk_all : ∀ a, a < 283 → ∀ e ∈ zcode a, zokb a e = true := by
  intro a ha
  by_cases h0 : a < 24
  · exact zchk_r zchk_0 a (by omega) h0
  by_cases h1 : a < 32
  · exact zchk_r zchk_1 a (by omega) h1
  by_cases h2 : a < 47
  · exact zchk_r zchk_2 a (by omega) h2
  by_cases h3 : a < 57
  · exact zchk_r zchk_3 a (by omega) h3
  by_cases h4 : a < 69
  · exact zchk_r zchk_4 a (by omega) h4
  by_cases h5 : a < 82
  · exact zchk_r zchk_5 a (by omega) h5
  by_cases h6 : a < 90
  · exact zchk_r zchk_6 a (by omega) h6
  by_cases h7 : a < 105
  · exact zchk_r zchk_7 a (by omega) h7
  by_cases h8 : a < 117
  · exact zchk_r zchk_8 a (by omega) h8
  by_cases h9 : a < 134
  · exact zchk_r zchk_9 a (by omega) h9
  by_cases h10 : a < 149
  · exact zchk_r zchk_10 a (by omega) h10
  by_cases h11 : a < 160
  · exact zchk_r zchk_11 a (by omega) h11
  by_cases h12 : a < 172
  · exact zchk_r zchk_12 a (by omega) h12
  by_cases h13 : a < 183
  · exact zchk_r zchk_13 a (by omega) h13
  by_cases h14 : a < 191
  · exact zchk_r zchk_14 a (by omega) h14
  by_cases h15 : a < 197
  · exact zchk_r zchk_15 a (by omega) h15
  by_cases h16 : a < 213
  · exact zchk_r zchk_16 a (by omega) h16
  by_cases h17 : a < 228
  · exact zchk_r zchk_17 a (by omega) h17
  by_cases h18 : a < 240
  · exact zchk_r zchk_18 a (by omega) h18
  by_cases h19 : a < 250
  · exact zchk_r zchk_19 a (by omega) h19
  by_cases h20 : a < 262
  · exact zchk_r zchk_20 a (by omega) h20
  by_cases h21 : a < 276
  · exact zchk_r zchk_21 a (by omega) h21
  exact zchk_r zchk_22 a (by omega) ha
theorem zflat_cat (z : Nat) (sv : Nat → Value) (hsv : ∀ k, (sv k).category = 1) : ∀ (as : List Value) (i o : Nat) (v : Value), (zflat as)[i]? = some v → v ≠ .retAddr 0 → (o + i, zcv z sv v) ∈ lv_args o (as.map (zcv z sv))
  | [], i, o, v, h, _ => by simp [zflat] at h
  | w :: r, i, o, v, h, hne => by
    have key : ∀ (u : Value), u.category = 1 → zflat (u :: r) = u :: zflat r → w = u → (o + i, zcv z sv v) ∈ lv_args o ((w :: r).map (zcv z sv)) := by
      intro u hu hz hw
      subst hw
      rw [hz] at h
      rw [List.map_cons]
      unfold lv_args
      rw [if_neg (by rw [zcv_cat hsv, hu]; decide)]
      cases i with
      | zero => cases h; exact List.mem_cons_self
      | succ j =>
        have ih := zflat_cat z sv hsv r j (o + 1) v h hne
        rw [show o + (j + 1) = o + 1 + j by omega]
        exact List.mem_cons_of_mem _ ih
    have key2 : ∀ (u : Value), u.category = 2 → zflat (u :: r) = u :: .retAddr 0 :: zflat r → w = u → (o + i, zcv z sv v) ∈ lv_args o ((w :: r).map (zcv z sv)) := by
      intro u hu hz hw
      subst hw
      rw [hz] at h
      rw [List.map_cons]
      unfold lv_args
      rw [if_pos (by rw [zcv_cat hsv, hu])]
      match i, h with
      | 0, h => cases h; exact List.mem_cons_self
      | 1, h => cases h; exact absurd rfl hne
      | j + 2, h =>
        have ih := zflat_cat z sv hsv r j (o + 2) v h hne
        rw [show o + (j + 2) = o + 2 + j by omega]
        exact List.mem_cons_of_mem _ ih
    cases w with
    | long x => exact key2 _ rfl rfl rfl
    | double x => exact key2 _ rfl rfl rfl
    | int x => exact key _ rfl rfl rfl
    | float x => exact key _ rfl rfl rfl
    | null => exact key _ rfl rfl rfl
    | ref x => exact key _ rfl rfl rfl
    | retAddr x => exact key _ rfl rfl rfl
theorem zflat_len (z : Nat) (sv : Nat → Value) (hsv : ∀ k, (sv k).category = 1) : ∀ (as : List Value), (lg_sl (as.map (zcv z sv))).length = (zflat as).length
  | [] => rfl
  | w :: r => by
    have ih := zflat_len z sv hsv r
    have e : lg_sl ((w :: r).map (zcv z sv)) = (if (zcv z sv w).category = 2 then [Slot.val (zcv z sv w), .second] else [.val (zcv z sv w)]) ++ lg_sl (r.map (zcv z sv)) := by
      unfold lg_sl
      rw [List.map_cons, List.flatMap_cons]
    rw [e, List.length_append, ih, zcv_cat hsv]
    cases w <;> simp [Value.category, zflat] <;> omega
theorem zlocs_len {as : List Value} {n : Nat} (h : (zflat as).length ≤ n) : (zlocs as n).length = n := by
  unfold zlocs
  rw [List.length_append, List.length_replicate]
  omega
theorem zlocs_zlv {z n : Nat} {sv : Nat → Value} (hsv : ∀ k, (sv k).category = 1) {as : List Value} (h : (zflat as).length ≤ n) : zlv z sv ((lg_sl (as.map (zcv z sv)) ++ List.replicate (n - (lg_sl (as.map (zcv z sv))).length) Slot.unset).toArray) n (zlocs as n) := by
  have hl := lv_entry (as.map (zcv z sv)) (n := n) (by rw [zflat_len z sv hsv]; exact h)
  refine ⟨hl.1, hl.2.1, zlocs_len h, fun i v hv hne => ?_⟩
  unfold zlocs at hv
  by_cases hi : i < (zflat as).length
  · rw [List.getElem?_append_left hi] at hv
    have := zflat_cat z sv hsv as i 0 v hv hne
    rw [Nat.zero_add] at this
    exact hl.2.2 _ this
  · rw [List.getElem?_append_right (by omega), List.getElem?_replicate] at hv
    split at hv
    · cases hv; exact absurd rfl hne
    · cases hv
theorem zflc_flat : ∀ {as : List Value}, zflc as = true → zflc (zflat as) = true
  | [], _ => rfl
  | w :: r, h => by
    have h' : (Nat.beq w.category 1 && zflc r) = true := h
    rw [Bool.and_eq_true] at h'
    have ih := zflc_flat h'.2
    cases w with
    | long x => exact absurd h'.1 (by simp [Value.category])
    | double x => exact absurd h'.1 (by simp [Value.category])
    | int x => show (Nat.beq 1 1 && zflc (zflat r)) = true; rw [ih]; rfl
    | float x => show (Nat.beq 1 1 && zflc (zflat r)) = true; rw [ih]; rfl
    | null => show (Nat.beq 1 1 && zflc (zflat r)) = true; rw [ih]; rfl
    | ref x => show (Nat.beq 1 1 && zflc (zflat r)) = true; rw [ih]; rfl
    | retAddr x => show (Nat.beq 1 1 && zflc (zflat r)) = true; rw [ih]; rfl
theorem zlocs_flc {as : List Value} {n : Nat} (h : zflc as = true) : zflc (zlocs as n) = true := by
  refine zflc_of fun v hv => ?_
  unfold zlocs at hv
  rcases List.mem_append.mp hv with g | g
  · exact zflc_mem (zflc_flat h) v g
  · rw [(List.mem_replicate.mp g).2]; rfl
section MET
variable {l : Launch} {D : va_G} {H0 : Heap} {xs : List Int32} {sv : Nat → Value} {dA : Nat → ClassId}
theorem zret_met {p : Program} {e : Env} {s : State} {m : MethodId} {args : Array Value} {below : List Frame} {meth : Method} {c : Code} {a d : Nat} {M : zM} {Q : zQ} (K : zctx D H0 xs sv dA a p s m args meth c) : zreti D H0 sv dA a (zn M) (zsl M) p l e (zrm d a) s m args below meth c (MQ below (zQc D H0 sv dA Q) args s (zalc a).1 (zalc a).2 (fun q => H0.size ≤ q)) Q := by
  obtain ⟨hx, hb, hml, hr, -, -, hlk, -⟩ := K
  refine ⟨fun x M' pc ty H locs lsA cells slots ls hq I hd ht hn => ?_, fun x M' pc cn H locs lsA cells slots ls hq I hd ht => ?_, fun M' pc H locs lsA cells slots ls hq I hd ht => ?_⟩
  all_goals
    have c1 : cells + zn M = zn M' := I.2.2.2.2.1
    have c2 : slots + zsl M = zsl M' := I.2.2.2.2.2.1
    have c3 : zn M' ≤ zn M + (zalc a).1 := I.2.2.2.2.2.2.1
    have c4 : zsl M' ≤ zsl M + (zalc a).2 := I.2.2.2.2.2.2.2.1
    refine W.widen (k := (zalc a).1) (n := (zalc a).2) (by omega) (by omega) ?_
  · exact W.zret hx hb (hr.trans ht) hn (fun t hT _ => ⟨M', some (.int x), hq, rfl, by rw [hT]; exact I.1⟩) I.2.1 hd hlk
  · exact W.aret hx hb (hr.trans ht) (Or.inl ⟨_, rfl⟩) (Or.inr ⟨_, rfl⟩) (fun t hT _ => ⟨M', some (.ref x), hq, rfl, by rw [hT]; exact I.1⟩) I.2.1 hd hlk
  · exact W.vret hx hb (hr.trans ht) (fun t hT _ => ⟨M', none, hq, rfl, by rw [hT]; exact I.1⟩) I.2.1 hd hlk
theorem zmet_all (hsv : ∀ k, (sv k).category = 1) : ∀ d a M as Q, a < 283 → zcall xs d a M as Q → zmet l D H0 xs sv dA d a M as Q
  | 0 => fun _ _ _ _ _ h => h.elim
  | d + 1 => by
    intro a M as Q ha h
    unfold zcall at h
    split at h
    next he =>
      unfold zent at he
      rw [Bool.and_eq_true, Bool.or_eq_true] at he
      have hlen : (zflat as).length ≤ znl a := Nat.le_of_ble_eq_true he.1
      refine va_MetF (cc := zbs a) (maxL := znl a) (ret := zrt a) (ws' := zgw) (zplain ha).1 rfl ?_
      intro p e s m args below meth c s₁ B hml hv
      obtain ⟨hargs, hrep, henv⟩ := hv
      subst hargs
      have hts := atoms_spec (ws := zws a) B.pre
      have K : zctx D H0 xs sv dA a p s m (as.map (zcv H0.size sv)).toArray meth c := by
        refine ⟨B.exec, B.bytes, hml, B.returns, ?_, fun w hw => hts w (List.mem_cons_of_mem _ hw), B.notSynchronized, fun q => ((name_of_methodNamed B.named B.method).1).trans q, henv, by rw [hrep.1]; exact Nat.le_add_right _ _, hrep.2.1, hsv⟩
        rw [← (zplain ha).2.1]
        exact findClass_of_methodNamed B.named
      have hgo := zgo_sound (l := l) (e := e) (below := below) (R := zrm (d + 1) a) (n0 := zn M) (s0 := zsl M) K rfl rfl (Nat.le_refl _) (Nat.le_refl _) (fun a M as Q ha h => zmet_all hsv d a M as Q ha h) (zret_met (d := d + 1) (M := M) (Q := Q) K) (zchk_all a ha) h
      rw [lg_entry_eq]
      refine hgo s.heap [] _ 0 0 ⟨hrep, fun x hx => (by cases hx), zlocs_zlv hsv hlen, fun hg => ?_, Nat.zero_add _, Nat.zero_add _, Nat.le_add_right _ _, Nat.le_add_right _ _, Nat.le_refl _⟩
      refine zlocs_flc ?_
      rcases he.2 with g | g
      · rw [hg] at g; cases g
      · exact g
    · exact h.elim
end MET
