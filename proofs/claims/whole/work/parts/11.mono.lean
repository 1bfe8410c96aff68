/-! the steps are monotone; runs by segments; calls by depth -/
theorem zck_mono {s : Nat ⊕ (Nat × Nat)} {a : Nat} {P P' : Prop} (h : P → P') : zck s a P → zck s a P' := by
  unfold zck zcst; split
  · split
    · exact h
    · exact id
  · exact id
theorem zsh_mono {s : Nat ⊕ (Nat × Nat)} {a : Nat} {P P' : Nat → Prop} (h : ∀ n, P n → P' n) : zsh s a P → zsh s a P' := by
  unfold zsh zcst; split
  · exact id
  · split
    · exact h _
    · exact id
theorem zro_mono {o : Option Nat} {P P' : Nat → Prop} (h : ∀ n, P n → P' n) : zro o P → zro o P' := by
  unfold zro zcst; split
  · exact h _
  · exact id
theorem zix_mono {i : Int32} {n : Nat} {P P' : Prop} (h : P → P') : zix i n P → zix i n P' := by
  unfold zix; split
  · exact h
  · exact id
theorem zbo_mono {x : Int32} {P P' : Prop} (h : P → P') : zbo x P → zbo x P' := by
  unfold zbo; split
  · exact id
  · exact h
theorem zck_i {s : Nat ⊕ (Nat × Nat)} {a : Nat} {P : Prop} (hs : s = .inl a) (h : P) : zck s a P := by
  subst hs; simpa [zck, zcst] using h
theorem zck_e {s : Nat ⊕ (Nat × Nat)} {a : Nat} {P : Prop} (h : zck s a P) : s = .inl a ∧ P := by
  unfold zck zcst at h; split at h
  · split at h
    next e => exact ⟨by rw [Nat.eq_of_beq_eq_true e], h⟩
    · exact h.elim
  · exact h.elim
theorem zsh_i {s : Nat ⊕ (Nat × Nat)} {t n : Nat} {P : Nat → Prop} (hs : s = .inr (t, n)) (h : P n) : zsh s t P := by
  subst hs; simpa [zsh, zcst] using h
theorem zsh_e {s : Nat ⊕ (Nat × Nat)} {t : Nat} {P : Nat → Prop} (h : zsh s t P) : ∃ n, s = .inr (t, n) ∧ P n := by
  unfold zsh zcst at h; split at h
  · exact h.elim
  · split at h
    next e => exact ⟨_, by rw [Nat.eq_of_beq_eq_true e], h⟩
    · exact h.elim
theorem zro_i {o : Option Nat} {t : Nat} {P : Nat → Prop} (hs : o = some t) (h : P t) : zro o P := by
  subst hs; exact h
theorem zro_e {o : Option Nat} {P : Nat → Prop} (h : zro o P) : ∃ t, o = some t ∧ P t := by
  unfold zro zcst at h; split at h
  · exact ⟨_, rfl, h⟩
  · exact h.elim
theorem zix_i {i : Int32} {n : Nat} {P : Prop} (hs : vp_in i n) (h : P) : zix i n P := by
  have h1 : ¬ i < 0 := fun q => hs (Or.inl q)
  have h2 : ¬ n ≤ i.toNatClampNeg := fun q => hs (Or.inr q)
  have h3 : Nat.ble n i.toNatClampNeg = false := by
    cases hb : Nat.ble n i.toNatClampNeg with
    | false => rfl
    | true => exact absurd (Nat.le_of_ble_eq_true hb) h2
  simpa [zix, h1, h3] using h
theorem zix_e {i : Int32} {n : Nat} {P : Prop} (h : zix i n P) : vp_in i n ∧ P := by
  unfold zix at h; split at h
  next e1 e2 =>
    refine ⟨fun q => ?_, h⟩
    rcases q with q | q
    · simp [q] at e1
    · rw [Nat.ble_eq_true_of_le q] at e2; cases e2
  · exact h.elim
theorem zbo_i {x : Int32} {P : Prop} (hs : x = 0 ∨ x = 1) (h : P) : zbo x P := by
  rcases hs with rfl | rfl <;> exact h
theorem zbo_e {x : Int32} {P : Prop} (h : zbo x P) : (x = 0 ∨ x = 1) ∧ P := by
  unfold zbo at h; split at h
  · exact h.elim
  next e =>
    refine ⟨?_, h⟩
    by_cases h0 : x = 0
    · exact Or.inl h0
    · by_cases h1 : x = 1
      · exact Or.inr h1
      · exact absurd (decide_eq_false h1) (e (decide_eq_false h0))
theorem zif2_mono {b : Bool} {A A' B B' : Prop} (hA : A → A') (hB : B → B') : zif2 b A B → zif2 b A' B' := by
  cases b
  · exact hB
  · exact hA
theorem zdec {p : Prop} [h : Decidable p] {A B : Prop} (hA : p → A) (hB : ¬ p → B) : zif2 (decide p) A B := by
  by_cases q : p
  · rw [decide_eq_true q]; exact hA q
  · rw [decide_eq_false q]; exact hB q
theorem zdec_e {p : Prop} [h : Decidable p] {A B : Prop} (z : zif2 (decide p) A B) : (p → A) ∧ (¬ p → B) := by
  refine ⟨fun q => ?_, fun q => ?_⟩
  · rw [decide_eq_true q] at z; exact z
  · rw [decide_eq_false q] at z; exact z
theorem zbr_mono {k : ClassFile.Cond} {x y : Int32} {A A' B B' : Prop} (hA : A → A') (hB : B → B') : zbr k x y A B → zbr k x y A' B' := by
  cases k <;> first | exact zif2_mono hA hB | exact zif2_mono hB hA
def zbrc (k : ClassFile.Cond) (x y : Int32) (A B : Prop) : Prop := match k with
  | .eq => (x = y → A) ∧ (¬ x = y → B)
  | .ne => (x = y → B) ∧ (¬ x = y → A)
  | .lt => (x < y → A) ∧ (¬ x < y → B)
  | .ge => (x < y → B) ∧ (¬ x < y → A)
  | .gt => (y < x → A) ∧ (¬ y < x → B)
  | .le => (y < x → B) ∧ (¬ y < x → A)
theorem zbr_e {k : ClassFile.Cond} {x y : Int32} {A B : Prop} (h : zbr k x y A B) : zbrc k x y A B := by
  cases k <;> exact zdec_e h
section MO
variable {xs : List Int32} {C C' : zC} {Bn Bs : Nat} {Q Q' : zQ} {X X' : zX} {np : Nat} {ls st : List Value} {M : zM}
theorem zldi_mono (hX : ∀ pc ls st M, X pc ls st M → X' pc ls st M) {a : Nat} : zldi X np ls a st M → zldi X' np ls a st M := by
  unfold zldi; split <;> first | exact hX _ _ _ _ | exact id
theorem zldl_mono (hX : ∀ pc ls st M, X pc ls st M → X' pc ls st M) {a : Nat} : zldl X np ls a st M → zldl X' np ls a st M := by
  unfold zldl; split <;> first | exact hX _ _ _ _ | exact id
theorem zlda_mono (hX : ∀ pc ls st M, X pc ls st M → X' pc ls st M) {a : Nat} : zlda X np ls a st M → zlda X' np ls a st M := by
  unfold zlda; split
  · exact hX _ _ _ _
  · split
    · exact hX _ _ _ _
    · exact id
  · exact id
theorem zsti_mono (hX : ∀ pc ls st M, X pc ls st M → X' pc ls st M) {a : Nat} : zsti X np ls a st M → zsti X' np ls a st M := by
  unfold zsti; split <;> first | exact hX _ _ _ _ | exact id
theorem zsta_mono (hX : ∀ pc ls st M, X pc ls st M → X' pc ls st M) {a : Nat} : zsta X np ls a st M → zsta X' np ls a st M := by
  unfold zsta; split <;> first | exact hX _ _ _ _ | exact id
theorem zinc_mono (hX : ∀ pc ls st M, X pc ls st M → X' pc ls st M) {a : Nat} {v : Value} : zinc X np ls a v st M → zinc X' np ls a v st M := by
  unfold zinc; split <;> first | exact hX _ _ _ _ | exact id
theorem zun_mono (hX : ∀ pc ls st M, X pc ls st M → X' pc ls st M) {f : Int32 → Int32} : zun f X np ls st M → zun f X' np ls st M := by
  unfold zun; split <;> first | exact hX _ _ _ _ | exact id
theorem zbin_mono (hX : ∀ pc ls st M, X pc ls st M → X' pc ls st M) {f : Int32 → Int32 → Int32} : zbin f X np ls st M → zbin f X' np ls st M := by
  unfold zbin; split <;> first | exact hX _ _ _ _ | exact id
theorem zdiv_mono (hX : ∀ pc ls st M, X pc ls st M → X' pc ls st M) {f : Int32 → Int32 → Int32} : zdiv f X np ls st M → zdiv f X' np ls st M := by
  unfold zdiv; split
  · exact fun h => ⟨h.1, hX _ _ _ _ h.2⟩
  · exact id
theorem zlcm_mono (hX : ∀ pc ls st M, X pc ls st M → X' pc ls st M) : zlcm X np ls st M → zlcm X' np ls st M := by
  unfold zlcm; split <;> first | exact hX _ _ _ _ | exact id
theorem zlor_mono (hX : ∀ pc ls st M, X pc ls st M → X' pc ls st M) : zlor X np ls st M → zlor X' np ls st M := by
  unfold zlor; split <;> first | exact hX _ _ _ _ | exact id
theorem zlsh_mono (hX : ∀ pc ls st M, X pc ls st M → X' pc ls st M) : zlsh X np ls st M → zlsh X' np ls st M := by
  unfold zlsh; split <;> first | exact hX _ _ _ _ | exact id
theorem zi2l_mono (hX : ∀ pc ls st M, X pc ls st M → X' pc ls st M) : zi2l X np ls st M → zi2l X' np ls st M := by
  unfold zi2l; split <;> first | exact hX _ _ _ _ | exact id
theorem zic_mono (hX : ∀ pc ls st M, X pc ls st M → X' pc ls st M) {k : ClassFile.Cond} {t : Nat} : zic k X t np ls st M → zic k X' t np ls st M := by
  unfold zic; split
  · exact zbr_mono (hX _ _ _ _) (hX _ _ _ _)
  · exact id
theorem zif_mono (hX : ∀ pc ls st M, X pc ls st M → X' pc ls st M) {k : ClassFile.Cond} {t : Nat} : zif k X t np ls st M → zif k X' t np ls st M := by
  unfold zif; split
  · exact zbr_mono (hX _ _ _ _) (hX _ _ _ _)
  · exact id
theorem zsw_mono {x : Int32} {P P' : Nat → Prop} (h : ∀ t, P t → P' t) {d : Nat} : ∀ ps : List (Int32 × Nat), zsw x P d ps → zsw x P' d ps
  | [] => h d
  | q :: qs => zif2_mono (h _) (zsw_mono h qs)
theorem zsws_mono (hX : ∀ pc ls st M, X pc ls st M → X' pc ls st M) {ps : List (Int32 × Nat)} {d : Nat} : zsws ps d X ls st M → zsws ps d X' ls st M := by
  unfold zsws; split
  · exact zsw_mono (fun t => hX _ _ _ _) ps
  · exact id
theorem zdup_mono (hX : ∀ pc ls st M, X pc ls st M → X' pc ls st M) : zdup X np ls st M → zdup X' np ls st M := by
  unfold zdup; split <;> first | exact hX _ _ _ _ | exact id
theorem zdup2_mono (hX : ∀ pc ls st M, X pc ls st M → X' pc ls st M) : zdup2 X np ls st M → zdup2 X' np ls st M := by
  unfold zdup2; split <;> first | exact hX _ _ _ _ | exact id
theorem zpop_mono (hX : ∀ pc ls st M, X pc ls st M → X' pc ls st M) : zpop X np ls st M → zpop X' np ls st M := by
  unfold zpop; split <;> first | exact hX _ _ _ _ | exact id
theorem zgf_mono (hX : ∀ pc ls st M, X pc ls st M → X' pc ls st M) {a b c : Nat} : zgf a b c X np ls st M → zgf a b c X' np ls st M := by
  unfold zgf; split
  · refine zck_mono ?_
    split
    · exact zro_mono fun t => hX _ _ _ _
    · exact hX _ _ _ _
    · exact hX _ _ _ _
  · split <;> first | exact hX _ _ _ _ | exact id
  · exact id
theorem zpf_mono (hX : ∀ pc ls st M, X pc ls st M → X' pc ls st M) {a b c : Nat} : zpf a b c X np ls st M → zpf a b c X' np ls st M := by
  unfold zpf; split
  · exact zck_mono (hX _ _ _ _)
  · exact zck_mono (zbo_mono (hX _ _ _ _))
  · exact zck_mono (hX _ _ _ _)
  · exact zck_mono (hX _ _ _ _)
  · exact id
theorem zal_mono (hX : ∀ pc ls st M, X pc ls st M → X' pc ls st M) {t : Nat} : zal xs t X np ls st M → zal xs t X' np ls st M := by
  unfold zal; split
  · exact zsh_mono fun n => zix_mono (hX _ _ _ _)
  · split
    · split
      · exact zix_mono (hX _ _ _ _)
      · exact id
    · exact id
  · exact id
theorem zll_mono (hX : ∀ pc ls st M, X pc ls st M → X' pc ls st M) : zll X np ls st M → zll X' np ls st M := by
  unfold zll; split
  · exact zsh_mono fun n => zix_mono (hX _ _ _ _)
  · exact id
theorem zaa_mono (hX : ∀ pc ls st M, X pc ls st M → X' pc ls st M) : zaa X np ls st M → zaa X' np ls st M := by
  unfold zaa; split
  · exact zsh_mono fun n => zix_mono (zro_mono fun t => hX _ _ _ _)
  · exact id
theorem zas_mono (hX : ∀ pc ls st M, X pc ls st M → X' pc ls st M) {t : Nat} {f : Int32 → Int32} : zas t f X np ls st M → zas t f X' np ls st M := by
  unfold zas; split
  · exact zsh_mono fun n => zix_mono (hX _ _ _ _)
  · exact id
theorem zls_mono (hX : ∀ pc ls st M, X pc ls st M → X' pc ls st M) : zls X np ls st M → zls X' np ls st M := by
  unfold zls; split
  · exact zsh_mono fun n => zix_mono (hX _ _ _ _)
  · exact id
theorem zaas_mono (hX : ∀ pc ls st M, X pc ls st M → X' pc ls st M) : zaas X np ls st M → zaas X' np ls st M := by
  unfold zaas; split
  · exact zsh_mono fun n => zix_mono (zck_mono (hX _ _ _ _))
  · exact id
theorem zlen_mono (hX : ∀ pc ls st M, X pc ls st M → X' pc ls st M) : zlen xs X np ls st M → zlen xs X' np ls st M := by
  unfold zlen; split
  · split
    · exact id
    · split
      · exact hX _ _ _ _
      · exact id
  · split
    · exact hX _ _ _ _
    · exact id
  · exact id
theorem znw_mono (hX : ∀ pc ls st M, X pc ls st M → X' pc ls st M) {a b : Nat} : znw Bn Bs a b X np ls st M → znw Bn Bs a b X' np ls st M := fun h => ⟨h.1, h.2.1, hX _ _ _ _ h.2.2⟩
theorem zna_mono (hX : ∀ pc ls st M, X pc ls st M → X' pc ls st M) {t : Nat} : zna Bn Bs t X np ls st M → zna Bn Bs t X' np ls st M := by
  unfold zna; split
  · exact fun ⟨h1, h2, h3, h4, h5⟩ => ⟨h1, h2, h3, h4, hX _ _ _ _ h5⟩
  · exact id
theorem zkI_mono {F : zF} {f f' : zIL → Int32 → Prop} (h : ∀ IL x, f IL x → f' IL x) : ∀ M o, zkI F f M o → zkI F f' M o := by
  intro M o z
  refine ⟨z.1, ?_⟩
  have z2 := z.2
  split at z2
  · exact h _ _ z2
  · exact z2.elim
theorem zkA_mono {F : zF} {f f' : zIL → Nat → Prop} (h : ∀ IL x, f IL x → f' IL x) : ∀ M o, zkA F f M o → zkA F f' M o := by
  intro M o z
  refine ⟨z.1, ?_⟩
  have z2 := z.2
  split at z2
  · exact h _ _ z2
  · exact z2.elim
theorem zkV_mono {F : zF} {f f' : zIL → Prop} (h : ∀ IL, f IL → f' IL) : ∀ M o, zkV F f M o → zkV F f' M o := by
  intro M o z
  refine ⟨z.1, ?_⟩
  have z2 := z.2
  split at z2
  · exact h _ z2
  · exact z2.elim
theorem zuI_mono {n s : Nat} {f f' : zM → Int32 → Prop} (h : ∀ IL x, f IL x → f' IL x) : ∀ M o, zuI n s f M o → zuI n s f' M o := by
  intro M o z
  refine ⟨z.1, z.2.1, ?_⟩
  have z2 := z.2.2
  split at z2
  · exact h _ _ z2
  · exact z2.elim
theorem zuV_mono {n s : Nat} {f f' : zM → Prop} (h : ∀ IL, f IL → f' IL) : ∀ M o, zuV n s f M o → zuV n s f' M o := by
  intro M o z
  refine ⟨z.1, z.2.1, ?_⟩
  have z2 := z.2.2
  split at z2
  · exact h _ z2
  · exact z2.elim
theorem zans_mono (hX : ∀ pc ls st M, X pc ls st M → X' pc ls st M) {c : Nat} {F : zF} {r : List Value} : ∀ M o, zans c F X np ls r M o → zans c F X' np ls r M o := by
  unfold zans; split
  · exact zkV_mono fun M => hX _ _ _ _
  · exact zkI_mono fun M x => hX _ _ _ _
  · exact zkA_mono fun M x => hX _ _ _ _
  · exact fun _ _ => id
theorem zanu_mono (hX : ∀ pc ls st M, X pc ls st M → X' pc ls st M) {c n s : Nat} {r : List Value} : ∀ M o, zanu c n s X np ls r M o → zanu c n s X' np ls r M o := by
  unfold zanu; split
  · exact zuV_mono fun M => hX _ _ _ _
  · exact zuI_mono fun M x => hX _ _ _ _
  · exact fun _ _ => id
theorem zcl_mono (hC : ∀ a M as (Q Q' : zQ), (∀ M r, Q M r → Q' M r) → C a M as Q → C' a M as Q') (hX : ∀ pc ls st M, X pc ls st M → X' pc ls st M) {a b c : Nat} {v : Value} : zcl C Bn Bs a b c v X np ls st M → zcl C' Bn Bs a b c v X' np ls st M := by
  unfold zcl; split
  · split
    · exact fun ⟨h1, h2, h3⟩ => ⟨h1, h2, hC _ _ _ _ _ (zanu_mono hX) h3⟩
    · exact hC _ _ _ _ _ (zans_mono hX)
  · exact id
theorem zvr_mono {v : Value} {o : Nat} {P P' : Prop} (h : P → P') : zvr v M o P → zvr v M o P' := by
  unfold zvr; split
  · exact zck_mono h
  · split <;> first | exact h | exact id
  · exact id
theorem zsr_mono {v : Value} {P P' : Prop} (h : P → P') : zsr v P → zsr v P' := by
  unfold zsr; split
  · exact h
  · exact id
theorem zoi_mono (hX : ∀ pc ls st M, X pc ls st M → X' pc ls st M) : zoi X np ls st M → zoi X' np ls st M := by
  unfold zoi; split
  · split
    · exact hX _ _ _ _
    · exact id
  · exact id
theorem zac_mono (hX : ∀ pc ls st M, X pc ls st M → X' pc ls st M) : zac X np ls st M → zac X' np ls st M := by
  unfold zac; split
  · refine zsh_mono fun n0 => zsh_mono fun n1 => ?_
    split
    · exact hX _ _ _ _
    · exact id
  · exact id
theorem zri_mono (hQ : ∀ M r, Q M r → Q' M r) {c : Nat} : zri c Q st M → zri c Q' st M := by
  unfold zri; split
  · split
    · exact zbo_mono (hQ _ _)
    · exact fun h => ⟨h.1, hQ _ _ h.2⟩
    · exact fun h => ⟨h.1, hQ _ _ h.2⟩
    · exact hQ _ _
  · exact id
theorem zra_mono (hQ : ∀ M r, Q M r → Q' M r) : zra Q st M → zra Q' st M := by
  unfold zra; split
  · exact hQ _ _
  · exact id
theorem zrv_mono (hQ : ∀ M r, Q M r → Q' M r) : zrv Q st M → zrv Q' st M := by
  unfold zrv; split
  · exact hQ _ _
  · exact id
set_option maxHeartbeats 4000000 in
theorem zop_mono (hC : ∀ a M as (Q Q' : zQ), (∀ M r, Q M r → Q' M r) → C a M as Q → C' a M as Q') (hQ : ∀ M r, Q M r → Q' M r) (hX : ∀ pc ls st M, X pc ls st M → X' pc ls st M) {pc : Nat} {ins : Instr} {a b c : Nat} {v : Value} : zop xs C Bn Bs Q X pc np ins a b c v ls st M → zop xs C' Bn Bs Q' X' pc np ins a b c v ls st M := by
  cases ins <;> simp only [zop]
  all_goals first
    | exact id
    | exact hX _ _ _ _
    | exact zldi_mono hX
    | exact zlda_mono hX
    | exact zldl_mono hX
    | exact zsti_mono hX
    | exact zsta_mono hX
    | exact zinc_mono hX
    | exact zbin_mono hX
    | exact zun_mono hX
    | exact zdiv_mono hX
    | exact zlcm_mono hX
    | exact zlor_mono hX
    | exact zlsh_mono hX
    | exact zi2l_mono hX
    | exact zic_mono hX
    | exact zif_mono hX
    | exact zsws_mono hX
    | exact zdup_mono hX
    | exact zdup2_mono hX
    | exact zpop_mono hX
    | exact zgf_mono hX
    | exact zpf_mono hX
    | exact zal_mono hX
    | exact zll_mono hX
    | exact zaa_mono hX
    | exact zas_mono hX
    | exact zls_mono hX
    | exact zaas_mono hX
    | exact zlen_mono hX
    | exact znw_mono hX
    | exact zna_mono hX
    | exact zri_mono hQ
    | exact zra_mono hQ
    | exact zrv_mono hQ
    | exact zcl_mono hC hX
    | exact zvr_mono (zcl_mono hC hX)
    | (split <;> first | exact zac_mono hX | exact zoi_mono hX | exact zcl_mono hC hX | exact zsr_mono (zcl_mono hC hX))
theorem zat_mono {cd : List zE} (hC : ∀ a M as (Q Q' : zQ), (∀ M r, Q M r → Q' M r) → C a M as Q → C' a M as Q') (hQ : ∀ M r, Q M r → Q' M r) (hX : ∀ pc ls st M, X pc ls st M → X' pc ls st M) {pc : Nat} : zat xs C Bn Bs cd Q X pc ls st M → zat xs C' Bn Bs cd Q' X' pc ls st M := by
  unfold zat; split
  · exact zop_mono hC hQ hX
  · exact id
/-- calls are monotone in what they must end in -/
def zCm (C : zC) : Prop := ∀ a M as (Q Q' : zQ), (∀ M r, Q M r → Q' M r) → C a M as Q → C a M as Q'
theorem zgo_in {cd : List zE} (hC : zCm C) {pc : Nat} (h : zat xs C Bn Bs cd Q (zgo xs C Bn Bs cd Q) pc ls st M) : zgo xs C Bn Bs cd Q pc ls st M := fun X hX => hX _ _ _ _ (zat_mono hC (fun _ _ => id) (fun _ _ _ _ g => g X hX) h)
theorem zrun_go {cd : List zE} (hC : zCm C) {stops : List Nat} : ∀ (k : Nat) (pc : Nat) (ls st : List Value) (M : zM), zrun xs C Bn Bs cd Q stops (zgo xs C Bn Bs cd Q) k pc ls st M → zgo xs C Bn Bs cd Q pc ls st M
  | 0, _, _, _, _ => id
  | k + 1, pc, ls, st, M => fun h => by
    unfold zrun at h
    split at h
    · exact h
    · exact zgo_in hC (zat_mono hC (fun _ _ => id) (zrun_go hC k) h)
theorem zseg {cd : List zE} (hC : zCm C) (k : Nat) (stops : List Nat) {pc : Nat} (h : zat xs C Bn Bs cd Q (zrun xs C Bn Bs cd Q stops (zgo xs C Bn Bs cd Q) k) pc ls st M) : zgo xs C Bn Bs cd Q pc ls st M := zgo_in hC (zat_mono hC (fun _ _ => id) (zrun_go hC k) h)
theorem zgo_mono {cd : List zE} (hC : ∀ a M as (Q Q' : zQ), (∀ M r, Q M r → Q' M r) → C a M as Q → C' a M as Q') (hQ : ∀ M r, Q M r → Q' M r) {pc : Nat} (h : zgo xs C Bn Bs cd Q pc ls st M) : zgo xs C' Bn Bs cd Q' pc ls st M := fun X hX => h X fun pc ls st M g => hX _ _ _ _ (zat_mono hC hQ (fun _ _ _ _ => id) g)
end MO
