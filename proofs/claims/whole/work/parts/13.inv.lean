/-- a value of the abstract machine as the machine has it: cells from z on; what is only read by sv -/
def zcv (z : Nat) (sv : Nat → Value) : Value → Value
  | .ref q => .ref (z + q)
  | .retAddr k => sv k
  | v => v
/-! what a step says, by its parts -/
section INV
variable {xs : List Int32} {C : zC} {Bn Bs : Nat} {Q : zQ} {X : zX} {np : Nat} {ls st : List Value} {M : zM}
theorem zldi_e {a : Nat} (h : zldi X np ls a st M) : ∃ x, ls.getD a (.retAddr 0) = .int x ∧ X np ls (.int x :: st) M := by
  unfold zldi at h; split at h
  next x hx => exact ⟨x, hx, h⟩
  · exact h.elim
theorem zldl_e {a : Nat} (h : zldl X np ls a st M) : ∃ x, ls.getD a (.retAddr 0) = .long x ∧ X np ls (.long x :: st) M := by
  unfold zldl at h; split at h
  next x hx => exact ⟨x, hx, h⟩
  · exact h.elim
theorem zlda_e {a : Nat} (h : zlda X np ls a st M) : (∃ x, ls.getD a (.retAddr 0) = .ref x ∧ X np ls (.ref x :: st) M) ∨ ∃ k, 1 ≤ k ∧ k ≤ 6 ∧ ls.getD a (.retAddr 0) = .retAddr k ∧ X np ls (.retAddr k :: st) M := by
  unfold zlda at h; split at h
  next x hx => exact Or.inl ⟨x, hx, h⟩
  next k hk =>
    split at h
    next e1 e2 => exact Or.inr ⟨k, Nat.le_of_ble_eq_true e1, Nat.le_of_ble_eq_true e2, hk, h⟩
    · exact h.elim
  · exact h.elim
theorem zsti_e {a : Nat} (h : zsti X np ls a st M) : ∃ x r, st = .int x :: r ∧ X np (ls.set a (.int x)) r M := by
  unfold zsti at h; split at h
  · exact ⟨_, _, rfl, h⟩
  · exact h.elim
theorem zsta_e {a : Nat} (h : zsta X np ls a st M) : ∃ x r, st = .ref x :: r ∧ X np (ls.set a (.ref x)) r M := by
  unfold zsta at h; split at h
  · exact ⟨_, _, rfl, h⟩
  · exact h.elim
theorem zinc_e {a : Nat} {v : Value} (h : zinc X np ls a v st M) : ∃ x k, ls.getD a (.retAddr 0) = .int x ∧ v = .int k ∧ X np (ls.set a (.int (x + k))) st M := by
  unfold zinc at h; split at h
  next x k hx => exact ⟨x, k, hx, rfl, h⟩
  · exact h.elim
theorem zun_e {f : Int32 → Int32} (h : zun f X np ls st M) : ∃ x r, st = .int x :: r ∧ X np ls (.int (f x) :: r) M := by
  unfold zun at h; split at h
  · exact ⟨_, _, rfl, h⟩
  · exact h.elim
theorem zbin_e {f : Int32 → Int32 → Int32} (h : zbin f X np ls st M) : ∃ y x r, st = .int y :: .int x :: r ∧ X np ls (.int (f x y) :: r) M := by
  unfold zbin at h; split at h
  · exact ⟨_, _, _, rfl, h⟩
  · exact h.elim
theorem zdiv_e {f : Int32 → Int32 → Int32} (h : zdiv f X np ls st M) : ∃ y x r, st = .int y :: .int x :: r ∧ ¬ y = 0 ∧ X np ls (.int (f x y) :: r) M := by
  unfold zdiv at h; split at h
  · exact ⟨_, _, _, rfl, h⟩
  · exact h.elim
theorem zlcm_e (h : zlcm X np ls st M) : ∃ y x r, st = .long y :: .long x :: r ∧ X np ls (.int (lg_cmp x y) :: r) M := by
  unfold zlcm at h; split at h
  · exact ⟨_, _, _, rfl, h⟩
  · exact h.elim
theorem zlor_e (h : zlor X np ls st M) : ∃ y x r, st = .long y :: .long x :: r ∧ X np ls (.long (x ||| y) :: r) M := by
  unfold zlor at h; split at h
  · exact ⟨_, _, _, rfl, h⟩
  · exact h.elim
theorem zlsh_e (h : zlsh X np ls st M) : ∃ y x r, st = .int y :: .long x :: r ∧ X np ls (.long (x <<< (y.toInt64 &&& 63)) :: r) M := by
  unfold zlsh at h; split at h
  · exact ⟨_, _, _, rfl, h⟩
  · exact h.elim
theorem zi2l_e (h : zi2l X np ls st M) : ∃ x r, st = .int x :: r ∧ X np ls (.long x.toInt64 :: r) M := by
  unfold zi2l at h; split at h
  · exact ⟨_, _, rfl, h⟩
  · exact h.elim
theorem zic_e {k : ClassFile.Cond} {t : Nat} (h : zic k X t np ls st M) : ∃ y x r, st = .int y :: .int x :: r ∧ zbrc k x y (X t ls r M) (X np ls r M) := by
  unfold zic at h; split at h
  · exact ⟨_, _, _, rfl, zbr_e h⟩
  · exact h.elim
theorem zif_e {k : ClassFile.Cond} {t : Nat} (h : zif k X t np ls st M) : ∃ x r, st = .int x :: r ∧ zbrc k x 0 (X t ls r M) (X np ls r M) := by
  unfold zif at h; split at h
  · exact ⟨_, _, rfl, zbr_e h⟩
  · exact h.elim
theorem zsws_e {ps : List (Int32 × Nat)} {d : Nat} (h : zsws ps d X ls st M) : ∃ x r, st = .int x :: r ∧ zsw x (fun t => X t ls r M) d ps := by
  unfold zsws at h; split at h
  · exact ⟨_, _, rfl, h⟩
  · exact h.elim
theorem zdup_e (h : zdup X np ls st M) : ∃ v r, st = v :: r ∧ v.category = 1 ∧ (∀ z sv, (zcv z sv v).category = 1) ∧ X np ls (v :: v :: r) M := by
  unfold zdup at h; split at h
  · exact ⟨_, _, rfl, rfl, fun _ _ => rfl, h⟩
  · exact ⟨_, _, rfl, rfl, fun _ _ => rfl, h⟩
  · exact h.elim
theorem zdup2_e (h : zdup2 X np ls st M) : ∃ x y r, st = .int x :: .ref y :: r ∧ X np ls (.int x :: .ref y :: .int x :: .ref y :: r) M := by
  unfold zdup2 at h; split at h
  · exact ⟨_, _, _, rfl, h⟩
  · exact h.elim
theorem zpop_e (h : zpop X np ls st M) : ∃ v r, st = v :: r ∧ (∀ z sv, (zcv z sv v).category = 1) ∧ X np ls r M := by
  unfold zpop at h; split at h
  · exact ⟨_, _, rfl, fun _ _ => rfl, h⟩
  · exact ⟨_, _, rfl, fun _ _ => rfl, h⟩
  · exact h.elim
theorem zgf_e {a b c : Nat} (h : zgf a b c X np ls st M) : (∃ q r, st = .ref q :: r ∧ zS M q = .inl a ∧ ((c = 4 ∧ ∃ t, zR M q b = some t ∧ X np ls (.ref t :: r) M) ∨ (c = 3 ∧ X np ls (.long (zL M q b) :: r) M) ∨ (c ≠ 4 ∧ c ≠ 3 ∧ X np ls (.int (zI M q b) :: r) M))) ∨ ∃ k r, st = .retAddr k :: r ∧ a = 99 ∧ (k = 3 ∨ k = 4) ∧ ((b = 0 ∧ X np ls (.retAddr (k + 2) :: r) M) ∨ (b = 1 ∧ X np ls (.int 0 :: r) M)) := by
  unfold zgf at h; split at h
  next q r =>
    obtain ⟨h1, h2⟩ := zck_e h
    refine Or.inl ⟨q, r, rfl, h1, ?_⟩
    split at h2
    · exact Or.inl ⟨rfl, zro_e h2⟩
    · exact Or.inr (Or.inl ⟨rfl, h2⟩)
    next c h4 h3 => exact Or.inr (Or.inr ⟨h4, h3, h2⟩)
  next k r =>
    split at h
    · exact Or.inr ⟨3, r, rfl, rfl, Or.inl rfl, Or.inl ⟨rfl, h⟩⟩
    · exact Or.inr ⟨4, r, rfl, rfl, Or.inr rfl, Or.inl ⟨rfl, h⟩⟩
    · exact Or.inr ⟨3, r, rfl, rfl, Or.inl rfl, Or.inr ⟨rfl, h⟩⟩
    · exact Or.inr ⟨4, r, rfl, rfl, Or.inr rfl, Or.inr ⟨rfl, h⟩⟩
    · exact h.elim
  · exact h.elim
theorem zpf_e {a b c : Nat} (h : zpf a b c X np ls st M) : ∃ q r, (∃ x : Int32, st = .int x :: .ref q :: r ∧ (c = 0 ∨ (c = 2 ∧ (x = 0 ∨ x = 1))) ∧ zS M q = .inl a ∧ X np ls r (zwI M q b x)) ∨ (∃ x : Int64, st = .long x :: .ref q :: r ∧ c = 3 ∧ zS M q = .inl a ∧ X np ls r (zwL M q b x)) ∨ (∃ t : Nat, st = .ref t :: .ref q :: r ∧ c = 4 ∧ zS M q = .inl a ∧ X np ls r (zwR M q b (some t))) := by
  unfold zpf at h; split at h
  · exact ⟨_, _, Or.inl ⟨_, rfl, Or.inl rfl, zck_e h⟩⟩
  · obtain ⟨h1, h2⟩ := zck_e h
    obtain ⟨h3, h4⟩ := zbo_e h2
    exact ⟨_, _, Or.inl ⟨_, rfl, Or.inr ⟨rfl, h3⟩, h1, h4⟩⟩
  · exact ⟨_, _, Or.inr (Or.inl ⟨_, rfl, rfl, zck_e h⟩)⟩
  · exact ⟨_, _, Or.inr (Or.inr ⟨_, rfl, rfl, zck_e h⟩)⟩
  · exact h.elim
theorem zal_e {t : Nat} (h : zal xs t X np ls st M) : ∃ i r, (∃ q n, st = .int i :: .ref q :: r ∧ zS M q = .inr (t, n) ∧ vp_in i n ∧ X np ls (.int (zI M q i.toNatClampNeg) :: r) M) ∨ ∃ k l, st = .int i :: .retAddr k :: r ∧ zspA xs k = some (t, l) ∧ vp_in i l.length ∧ X np ls (.int (l.getD i.toNatClampNeg 0) :: r) M := by
  unfold zal at h; split at h
  next i q r =>
    obtain ⟨n, h1, h2⟩ := zsh_e h
    obtain ⟨h3, h4⟩ := zix_e h2
    exact ⟨i, r, Or.inl ⟨q, n, rfl, h1, h3, h4⟩⟩
  next i k r =>
    split at h
    next t' l hl =>
      split at h
      next et =>
        obtain ⟨h3, h4⟩ := zix_e h
        exact ⟨i, r, Or.inr ⟨k, l, rfl, by rw [hl, Nat.eq_of_beq_eq_true et], h3, h4⟩⟩
      · exact h.elim
    · exact h.elim
  · exact h.elim
theorem zll_e (h : zll X np ls st M) : ∃ i q n r, st = .int i :: .ref q :: r ∧ zS M q = .inr (3, n) ∧ vp_in i n ∧ X np ls (.long (zL M q i.toNatClampNeg) :: r) M := by
  unfold zll at h; split at h
  next i q r =>
    obtain ⟨n, h1, h2⟩ := zsh_e h
    obtain ⟨h3, h4⟩ := zix_e h2
    exact ⟨i, q, n, r, rfl, h1, h3, h4⟩
  · exact h.elim
theorem zaa_e (h : zaa X np ls st M) : ∃ i q n t r, st = .int i :: .ref q :: r ∧ zS M q = .inr (4, n) ∧ vp_in i n ∧ zR M q i.toNatClampNeg = some t ∧ X np ls (.ref t :: r) M := by
  unfold zaa at h; split at h
  next i q r =>
    obtain ⟨n, h1, h2⟩ := zsh_e h
    obtain ⟨h3, h4⟩ := zix_e h2
    obtain ⟨t, h5, h6⟩ := zro_e h4
    exact ⟨i, q, n, t, r, rfl, h1, h3, h5, h6⟩
  · exact h.elim
theorem zas_e {t : Nat} {f : Int32 → Int32} (h : zas t f X np ls st M) : ∃ x i q n r, st = .int x :: .int i :: .ref q :: r ∧ zS M q = .inr (t, n) ∧ vp_in i n ∧ X np ls r (zwI M q i.toNatClampNeg (f x)) := by
  unfold zas at h; split at h
  next x i q r =>
    obtain ⟨n, h1, h2⟩ := zsh_e h
    obtain ⟨h3, h4⟩ := zix_e h2
    exact ⟨x, i, q, n, r, rfl, h1, h3, h4⟩
  · exact h.elim
theorem zls_e (h : zls X np ls st M) : ∃ x i q n r, st = .long x :: .int i :: .ref q :: r ∧ zS M q = .inr (3, n) ∧ vp_in i n ∧ X np ls r (zwL M q i.toNatClampNeg x) := by
  unfold zls at h; split at h
  next x i q r =>
    obtain ⟨n, h1, h2⟩ := zsh_e h
    obtain ⟨h3, h4⟩ := zix_e h2
    exact ⟨x, i, q, n, r, rfl, h1, h3, h4⟩
  · exact h.elim
theorem zaas_e (h : zaas X np ls st M) : ∃ t i q n r, st = .ref t :: .int i :: .ref q :: r ∧ zS M q = .inr (4, n) ∧ vp_in i n ∧ zS M t = .inl 6 ∧ X np ls r (zwR M q i.toNatClampNeg (some t)) := by
  unfold zaas at h; split at h
  next t i q r =>
    obtain ⟨n, h1, h2⟩ := zsh_e h
    obtain ⟨h3, h4⟩ := zix_e h2
    obtain ⟨h5, h6⟩ := zck_e h4
    exact ⟨t, i, q, n, r, rfl, h1, h3, h5, h6⟩
  · exact h.elim
theorem zlen_e (h : zlen xs X np ls st M) : ∃ r, (∃ q t n, st = .ref q :: r ∧ zS M q = .inr (t, n) ∧ t < 5 ∧ X np ls (.int (nI n) :: r) M) ∨ ∃ k t l, st = .retAddr k :: r ∧ zspA xs k = some (t, l) ∧ X np ls (.int (nI l.length) :: r) M := by
  unfold zlen at h; split at h
  next q r =>
    split at h
    · exact h.elim
    next t n hq =>
      split at h
      next hb => exact ⟨r, Or.inl ⟨q, t, n, rfl, hq, Nat.le_of_ble_eq_true hb, h⟩⟩
      · exact h.elim
  next k r =>
    split at h
    next t l hk => exact ⟨r, Or.inr ⟨k, t, l, rfl, hk, h⟩⟩
    · exact h.elim
  · exact h.elim
theorem zna_e {t : Nat} (h : zna Bn Bs t X np ls st M) : ∃ k r, st = .int k :: r ∧ ¬ k < 0 ∧ k.toNatClampNeg ≤ 100000 ∧ zn M + 1 ≤ Bn ∧ zsl M + k.toNatClampNeg ≤ Bs ∧ X np ls (.ref (zn M) :: r) (znew M (.inr (t, k.toNatClampNeg)) k.toNatClampNeg) := by
  unfold zna at h; split at h
  next k r => exact ⟨k, r, rfl, h⟩
  · exact h.elim
theorem zcl_e {a b c : Nat} {v : Value} (h : zcl C Bn Bs a b c v X np ls st M) : b ≤ st.length ∧ zcat (st.drop b) ≤ 8 ∧ ((∃ mc, v = .ref mc ∧ zn M + mc / 1000000 ≤ Bn ∧ zsl M + mc % 1000000 ≤ Bs ∧ C a M (st.take b).reverse (zanu c (zn M + mc / 1000000) (zsl M + mc % 1000000) X np ls (st.drop b))) ∨ ((∀ mc, v ≠ .ref mc) ∧ C a M (st.take b).reverse (zans c M.1 X np ls (st.drop b)))) := by
  unfold zcl at h; split at h
  next e1 e2 =>
    refine ⟨Nat.le_of_ble_eq_true e1, Nat.le_of_ble_eq_true e2, ?_⟩
    split at h
    next mc => exact Or.inl ⟨mc, rfl, h⟩
    next v hv => exact Or.inr ⟨hv, h⟩
  · exact h.elim
theorem zvr_e {v : Value} {o : Nat} {P : Prop} (h : zvr v M o P) : P ∧ ((∃ q, v = .ref q ∧ zS M q = .inl o) ∨ ∃ k, v = .retAddr k ∧ (k = 3 ∨ k = 4) ∧ o = 13) := by
  unfold zvr at h; split at h
  next q =>
    obtain ⟨h1, h2⟩ := zck_e h
    exact ⟨h2, Or.inl ⟨q, rfl, h1⟩⟩
  next k =>
    split at h
    · exact ⟨h, Or.inr ⟨3, rfl, Or.inl rfl, rfl⟩⟩
    · exact ⟨h, Or.inr ⟨4, rfl, Or.inr rfl, rfl⟩⟩
    · exact h.elim
  · exact h.elim
theorem zsr_e {v : Value} {P : Prop} (h : zsr v P) : P ∧ ∃ q, v = .ref q := by
  unfold zsr at h; split at h
  next q => exact ⟨h, q, rfl⟩
  · exact h.elim
theorem zoi_e (h : zoi X np ls st M) : ∃ q r, st = .ref q :: r ∧ zcat r ≤ 8 ∧ X np ls r M := by
  unfold zoi at h; split at h
  next q r =>
    split at h
    next hb => exact ⟨q, r, rfl, Nat.le_of_ble_eq_true hb, h⟩
    · exact h.elim
  · exact h.elim
theorem zac_e (h : zac X np ls st M) : ∃ n dp q1 sp q0 n0 n1, st = [.int n, .int dp, .ref q1, .int sp, .ref q0] ∧ zS M q0 = .inr (0, n0) ∧ zS M q1 = .inr (0, n1) ∧ ¬ sp < 0 ∧ ¬ dp < 0 ∧ ¬ n < 0 ∧ sp.toNatClampNeg + n.toNatClampNeg ≤ n0 ∧ dp.toNatClampNeg + n.toNatClampNeg ≤ n1 ∧ X np ls [] (zcpy M q0 sp.toNatClampNeg q1 dp.toNatClampNeg n.toNatClampNeg) := by
  unfold zac at h; split at h
  next n dp q1 sp q0 =>
    obtain ⟨n0, h1, h⟩ := zsh_e h
    obtain ⟨n1, h2, h⟩ := zsh_e h
    split at h
    next e1 e2 e3 e4 e5 => exact ⟨n, dp, q1, sp, q0, n0, n1, rfl, h1, h2, of_decide_eq_false e1, of_decide_eq_false e2, of_decide_eq_false e3, Nat.le_of_ble_eq_true e4, Nat.le_of_ble_eq_true e5, h⟩
    · exact h.elim
  · exact h.elim
theorem zri_e {c : Nat} (h : zri c Q st M) : ∃ x, st = [.int x] ∧ (c = 2 → x = 0 ∨ x = 1) ∧ (c = 5 → narrow .char (.int x) = .int x) ∧ (c = 1 → narrow .byte (.int x) = .int x) ∧ Q M (some (.int x)) := by
  unfold zri at h; split at h
  next x =>
    refine ⟨x, rfl, ?_⟩
    split at h
    · obtain ⟨h1, h2⟩ := zbo_e h
      exact ⟨fun _ => h1, fun e => (by cases e), fun e => (by cases e), h2⟩
    · exact ⟨fun e => (by cases e), fun _ => h.1, fun e => (by cases e), h.2⟩
    · exact ⟨fun e => (by cases e), fun e => (by cases e), fun _ => h.1, h.2⟩
    next c h2 h5 h1 => exact ⟨fun e => absurd e h2, fun e => absurd e h5, fun e => absurd e h1, h⟩
  · exact h.elim
theorem zra_e (h : zra Q st M) : ∃ x, st = [.ref x] ∧ Q M (some (.ref x)) := by
  unfold zra at h; split at h
  · exact ⟨_, rfl, h⟩
  · exact h.elim
theorem zrv_e (h : zrv Q st M) : st = [] ∧ Q M none := by
  unfold zrv at h; split at h
  · exact ⟨rfl, h⟩
  · exact h.elim
end INV
