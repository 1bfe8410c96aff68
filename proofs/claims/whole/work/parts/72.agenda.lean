/-! agenda: the class's side -/
theorem y_stgs : ∀ r, r < 7 → zshl.getD (114 + 2 * r) (.inr (9, 0)) = .inl 6 ∧ zshl.getD (114 + 2 * r + 1) (.inr (9, 0)) = .inr (0, 7) ∧ ((zrl false).getD (114 + 2 * r) []).getD 0 none = some (114 + 2 * r + 1) ∧ ((zrl true).getD (114 + 2 * r) []).getD 0 none = some (114 + 2 * r + 1) ∧ ((zrl false).getD 113 []).getD r none = some (114 + 2 * r) ∧ ((zrl true).getD 113 []).getD r none = some (114 + 2 * r) := by decide +kernel
theorem zSt_g (t : Bool) {r : Nat} (h : r < 7) : zSt t (114 + 2 * r) := by
  obtain ⟨h1, h2, h3, h4, _⟩ := y_stgs r h
  cases t
  · exact ⟨fun _ => h1, fun _ => h3, fun _ => h2⟩
  · exact ⟨fun _ => h1, fun _ => h4, fun _ => h2⟩
theorem zR_g (t : Bool) {r : Nat} (h : r < 7) (IL : zIL) : zR (zFx t, IL) 113 r = some (114 + 2 * r) := by
  obtain ⟨_, _, _, _, h5, h6⟩ := y_stgs r h
  cases t
  · exact h5
  · exact h6
theorem zck_s {t : Bool} {IL : zIL} {s : Nat} {P : Prop} (h : zSt t s) (p : P) : zck (zS (zFx t, IL) s) 6 P := by rw [h.1, zck_r]; exact p
/-- what goOn may change, from that depth on -/
def ygf (u : Bool) (dp : Nat) (A B : zIL) : Prop := (∀ c, c ≠ 110 → c ≠ 111 → c ≠ 112 → ¬ (116 + 2 * dp ≤ c ∧ c ≤ 127) → c ≠ zH u + 5 → c ≠ zH u + 7 → B.1 c = A.1 c) ∧ (∀ j, j < dp → B.1 112 j = A.1 112 j) ∧ B.2 = A.2
theorem ygf_rf {u : Bool} {dp : Nat} {A : zIL} : ygf u dp A A := ⟨fun _ _ _ _ _ _ _ => rfl, fun _ _ => rfl, rfl⟩
theorem ygf_tr {u : Bool} {dp : Nat} {A B C : zIL} (h1 : ygf u dp A B) (h2 : ygf u dp B C) : ygf u dp A C := ⟨fun c a b e f g h => (h2.1 c a b e f g h).trans (h1.1 c a b e f g h), fun j hj => (h2.2.1 j hj).trans (h1.2.1 j hj), h2.2.2.trans h1.2.2⟩
theorem ygf_up {u : Bool} {dp : Nat} {A B : zIL} (h : ygf u (dp + 1) A B) : ygf u dp A B := ⟨fun c a b e f g k => h.1 c a b e (by omega) g k, fun j hj => h.2.1 j (by omega), h.2.2⟩
/-- most and best as they stand -/
def ymb1 (r : Nat) (p : Nat × List Nat) (IL : zIL) : Prop := IL.1 110 0 = nI p.1 - 1 ∧ p.1 ≤ 7 ∧ (0 < p.1 → ∀ j, j < r → IL.1 111 j = nI (p.2.getD j 0))
section AGENDA
variable {xs : List Int32} {t u : Bool} {H : yH} {fa : Int32}
theorem yCH.gf {dp : Nat} {A B : zIL} (h : yCH u H A) (f : ygf u dp A B) : yCH u H B := h.fr (fun i h8 h5 h7 => f.1 _ (by have := zH_le u; omega) (by have := zH_le u; omega) (by have := zH_le u; omega) (by have := zH_le u; omega) (by omega) (by omega))
theorem y_m1 {M a : Nat} (hM : M ≤ 4000) (ha : a ≤ 4000) : nI M - 1 < nI a ↔ M ≤ a := by
  rw [Int32.lt_iff_toInt_lt]
  have e1 := nI_toInt (n := M) (by omega)
  have e2 := nI_toInt (n := a) (by omega)
  have e3 : (1 : Int32).toInt = 1 := by decide
  rw [i_sub (by omega) (by omega) (by omega) (by omega), e1, e2, e3]
  omega
theorem yG_le (k : Nat) : ∀ (l uu : Nat) (S : Nat → Int32) (ps : Nat) (pre : List Nat) (p : Nat × List Nat), ps + l ≤ 6 → p.1 ≤ 7 → (yG H fa k l uu S ps pre p).1 ≤ 7
  | 0, uu, S, ps, pre, p, h, hp => by
    rw [yG]
    split
    · show ps + 1 ≤ 7; omega
    · exact hp
  | l + 1, uu, S, ps, pre, p, h, hp => by
    rw [yG]
    refine yfo_inv (fun _ (q : Nat × List Nat) => q.1 ≤ 7) k 0 p hp (fun j b _ _ hb => ?_)
    split
    · exact hb
    · refine yG_le k l _ _ _ _ b ?_ hb
      have := Bool.toNat_le (ypas H (-1) (H.sh j) fa S)
      omega
theorem c_goOn (hH : yOK H) (hfa : fa = 0 ∨ fa = 1) {r : Nat} (hr : r ≤ 6) : ∀ (l dp uu : Nat) (S : Nat → Int32) (ps : Nat) (pre : List Nat) (p : Nat × List Nat) (IL : zIL) (Q : zQ) (D : Nat), l + 6 ≤ D → dp + l = r → S 8 = nI uu → uu < 2 ^ H.k → ypc uu + l = H.k → yCH u H IL → yCS (114 + 2 * dp) S IL → ySB H S → pre.length = dp → (∀ j, j < dp → IL.1 112 j = nI (pre.getD j 0)) → ymb1 r p IL → ps ≤ dp → (∀ IL', ygf u dp IL IL' → ymb1 r (yG H fa H.k l uu S ps pre p) IL' → Q (zFx t, IL') none) → zcall xs D 20 (zFx t, IL) [.ref 110, .ref (zH u), .int (nI dp), .int (nI ps), .int fa] Q := by
  intro l
  induction l with
  | zero =>
    intro dp uu S ps pre p IL Q D hD hl h8 hu hc hC hS hB hpl hpre hm hps hQ
    have k6 := hH.k6
    have p64 : 2 ^ H.k ≤ 128 := y_pw7 (by omega)
    obtain ⟨e, rfl⟩ : ∃ e, D = e + 6 := ⟨D - 6, by omega⟩
    refine sX0_goOn t u _ _ _ IL (zix_n (by omega) (by omega) ?_)
    rw [ycl (by omega)]
    refine zro_i (zR_g t (by omega) IL) (zck_s (zSt_g t (r := dp) (by omega)) (c_bitCount (kI ?_)))
    rw [hS.read, h8, y_pcb (by omega), hC.cla, hm.1, pk_sub (by omega), show H.k - ypc uu = 0 by omega, show nI 0 = 0 from rfl, Int32.add_zero]
    rcases Nat.lt_or_ge ps p.1 with q | q
    · refine zdec (fun z => absurd ((y_m1 (by have := hm.2.1; omega) (by omega)).mp z) (by omega)) (fun _ => ?_)
      refine hQ IL ygf_rf ?_
      rw [yG_prune H fa H.k 0 uu S ps pre p (by omega)]
      exact hm
    · refine zdec (fun _ => ?_) (fun z => absurd ((y_m1 (by have := hm.2.1; omega) (by omega)).mpr q) z)
      refine zdec (fun _ => ?_) (fun z => absurd rfl z)
      have eg : yG H fa H.k 0 uu S ps pre p = (ps + 1, pre) := by rw [yG, if_pos q]
      have hw : ∀ c, c ≠ 111 → (zwc (zwi IL 110 0 (nI ps)) 112 0 111 0 6).1 c = (zwi IL 110 0 (nI ps)).1 c := fun c h => by
        unfold zwc zrow
        funext j
        exact if_neg h
      refine hQ _ ⟨fun c h1 h2 h3 h4 h5 h6 => by rw [hw c h2, zwi_ne h1], fun j hj => by rw [hw 112 (by decide), zwi_ne (by decide)], rfl⟩ ?_
      rw [eg]
      refine ⟨?_, by show ps + 1 ≤ 7; omega, fun _ j hj => ?_⟩
      · rw [hw 110 (by decide), zwi_at, if_pos rfl]
        exact (nI_pred ps).symm
      · have : (zwc (zwi IL 110 0 (nI ps)) 112 0 111 0 6).1 111 j = va_cpy ((zwi IL 110 0 (nI ps)).1 112) ((zwi IL 110 0 (nI ps)).1 111) 0 0 6 j := by
          rfl
        rw [this, pk_cpy_in (by omega) (by omega), show 0 + (j - 0) = j by omega, zwi_ne (by decide)]
        exact hpre j (by omega)
  | succ l ih =>
    intro dp uu S ps pre p IL Q D hD hl h8 hu hc hC hS hB hpl hpre hm hps hQ
    have k6 := hH.k6
    have zl := zH_le u
    have p64 : 2 ^ H.k ≤ 64 := Nat.pow_le_pow_right (n := 2) (by decide) k6
    obtain ⟨e, rfl⟩ : ∃ e, D = e + 6 := ⟨D - 6, by omega⟩
    refine sX0_goOn t u _ _ _ IL (zix_n (by omega) (by omega) ?_)
    rw [ycl (by omega)]
    refine zro_i (zR_g t (by omega) IL) (zck_s (zSt_g t (r := dp) (by omega)) (c_bitCount (kI ?_)))
    rw [hS.read, h8, y_pcb (by omega), hC.cla, hm.1, pk_sub (by omega), show H.k - ypc uu = l + 1 by omega, nI_add]
    rcases Nat.lt_or_ge (ps + (l + 1)) p.1 with q | q
    · refine zdec (fun z => absurd ((y_m1 (by have := hm.2.1; omega) (by omega)).mp z) (by omega)) (fun _ => ?_)
      refine hQ IL ygf_rf ?_
      rw [yG_prune H fa H.k (l + 1) uu S ps pre p q]
      exact hm
    · refine zdec (fun _ => ?_) (fun z => absurd ((y_m1 (by have := hm.2.1; omega) (by omega)).mpr q) z)
      refine zdec (fun z => absurd ((nI_eq (b := 0) (by omega) (by omega)).mp z) (by omega)) (fun _ => ?_)
      rw [yG] at hQ
      -- the loop over the clauses
      have loop : ∀ (m i : Nat) (q : Nat × List Nat) (M : zIL) (w8 w9 : Value), i + m = H.k → ygf u dp IL M → ymb1 r q M → (∀ IL', ygf u dp IL IL' → ymb1 r (yfo (fun c q => if uu.testBit c then q else yG H fa H.k l (uu ||| 2 ^ c) (ysit H (-1) (H.sh c) fa c S) (ps + (ypas H (-1) (H.sh c) fa S).toNat) (pre ++ [c]) q) m i q) IL' → Q (zFx t, IL') none) → gX0_goOn xs (e + 5) Q 64 [.ref 110, .ref (zH u), .int (nI dp), .int (nI ps), .int fa, .ref (114 + 2 * dp), .int (nI (l + 1)), .int (nI i), w8, w9] [] (zFx t, M) := by
        intro m
        induction m with
        | zero =>
          intro i q M w8 w9 hi fr hmq hq
          exact sX0_goOn_64 t u _ _ _ _ _ _ _ _ M (zd_f (hC.gf fr).cla (by omega) (by omega) (hq M fr hmq))
        | succ m ihm =>
          intro i q M w8 w9 hi fr hmq hq
          unfold yfo at hq
          have hCM := hC.gf fr
          have nst : ∀ c, c = 114 + 2 * dp ∨ c = 114 + 2 * dp + 1 → M.1 c = IL.1 c := fun c hc => fr.1 c (by omega) (by omega) (by omega) (by omega) (by omega) (by omega)
          have hSM : yCS (114 + 2 * dp) S M := hS.fr (nst _ (Or.inl rfl)) (nst _ (Or.inr rfl))
          have eb : bt (S 8) i = uu.testBit i := by rw [h8, bt_nI (by omega)]
          refine sX0_goOn_64 t u _ _ _ _ _ _ _ _ M (zd_t hCM.cla (by omega) (by omega) (zd_t (n := 6) rfl (by omega) (by omega) (zck_s (zSt_g t (r := dp) (by omega)) ?_)))
          rw [hSM.read]
          refine c_has (by omega) (fun hb => kI (z0 ?_)) (fun hb => kI (z1 ?_))
          · rw [eb] at hb
            rw [hb] at hq
            rw [nI_1]
            refine zix_n (by omega) (by omega) ?_
            rw [ycl (by omega)]
            refine zro_i (zR_g t (r := dp + 1) (by omega) M) (zck_s (zSt_g t (r := dp + 1) (by omega)) ?_)
            refine c_copy (zSt_g t (r := dp + 1) (by omega)) (zSt_g t (r := dp) (by omega)) ⟨by omega, by omega, by omega⟩ hSM (fun I3 f3 s3 => kV (zix_n (by omega) (by omega) (zck_s (zSt_g t (r := dp + 1) (by omega)) ?_)))
            rw [ycl (by omega)]
            have k3 : ∀ c, c ≠ 114 + 2 * (dp + 1) → c ≠ 114 + 2 * (dp + 1) + 1 → I3.1 c = M.1 c := fun c h1 h2 => f3.1 c (by simp only [List.mem_cons, List.not_mem_nil, or_false]; omega)
            have g3 : ygf u dp M (zwi I3 112 dp (nI i)) := ⟨fun c h1 h2 h3 h4 h5 h6 => by rw [zwi_ne h3, k3 c (by omega) (by omega)], fun j hj => by rw [zwi_at, if_neg (by omega), k3 112 (by omega) (by omega)], f3.2⟩
            have s3' : yCS (114 + 2 * (dp + 1)) S (zwi I3 112 dp (nI i)) := s3.fr (zwi_ne (by omega)) (zwi_ne (by omega))
            have hC3 := hCM.gf g3
            refine c_sit (zSt_g t (r := dp + 1) (by omega)) (by omega) hH hfa (by omega) hC3 s3' hB (fun I4 f4 s4 _ _ => kI ?_)
            have k4 : ∀ c, c ≠ 114 + 2 * (dp + 1) → c ≠ 114 + 2 * (dp + 1) + 1 → c ≠ zH u + 5 → c ≠ zH u + 7 → I4.1 c = (zwi I3 112 dp (nI i)).1 c := fun c h1 h2 h3 h4 => f4.1 c (by simp only [List.mem_cons, List.not_mem_nil, or_false]; omega)
            have g4 : ygf u dp M I4 := ⟨fun c h1 h2 h3 h4 h5 h6 => by rw [k4 c (by omega) (by omega) h5 h6, g3.1 c h1 h2 h3 h4 h5 h6], fun j hj => by rw [k4 112 (by omega) (by omega) (by omega) (by omega), g3.2.1 j hj], by rw [f4.2]; exact g3.2.2⟩
            have hC4 := hCM.gf g4
            have e112 : I4.1 112 = (zwi I3 112 dp (nI i)).1 112 := k4 112 (by omega) (by omega) (by omega) (by omega)
            have c110 : I4.1 110 = M.1 110 := by rw [k4 110 (by omega) (by omega) (by omega) (by omega), zwi_ne (by decide), k3 110 (by omega) (by omega)]
            have c111 : I4.1 111 = M.1 111 := by rw [k4 111 (by omega) (by omega) (by omega) (by omega), zwi_ne (by decide), k3 111 (by omega) (by omega)]
            have hm4 : ymb1 r q I4 := ⟨by rw [c110]; exact hmq.1, hmq.2.1, fun h j hj => by rw [c111]; exact hmq.2.2 h j hj⟩
            have u2 : uu ||| 2 ^ i < 2 ^ H.k := Nat.or_lt_two_pow hu (Nat.pow_lt_pow_right (by decide) (by omega))
            have pc2 : ypc (uu ||| 2 ^ i) = ypc uu + 1 := y_orc uu (by omega) i (by omega) hb
            have r8 : ysit H (-1) (H.sh i) fa i S 8 = nI (uu ||| 2 ^ i) := by
              rw [ysit_8, h8]
              refine b_ext (fun j hj => ?_)
              rw [b_or, b_one (by omega) hj, bt_nI hj, bt_nI hj, Nat.testBit_or, Nat.testBit_two_pow]
              congr 1
              by_cases z : j = i
              · rw [decide_eq_true z, decide_eq_true z.symm]
              · rw [decide_eq_false z, decide_eq_false (fun w => z w.symm)]
            have pre2 : ∀ j, j < dp + 1 → I4.1 112 j = nI ((pre ++ [i]).getD j 0) := fun j hj => by
              rw [e112, zwi_at, List.getD_eq_getElem?_getD]
              by_cases z : j = dp
              · rw [if_pos z, z, ← hpl, List.getElem?_append_right (Nat.le_refl _), Nat.sub_self]
                rfl
              · rw [if_neg z, k3 112 (by omega) (by omega), fr.2.1 j (by omega), List.getElem?_append_left (by omega), ← List.getD_eq_getElem?_getD]
                exact hpre j (by omega)
            have pl2 : (pre ++ [i]).length = dp + 1 := by rw [List.length_append, hpl]; rfl
            have tb := Bool.toNat_le (ypas H (-1) (H.sh i) fa S)
            have b2 := ySB_sit hH hB (-1) (H.sh i) fa (c := i) (by omega)
            have call : ∀ (w8 w9 : Value), zcall xs (e + 5) 20 (zFx t, I4) [.ref 110, .ref (zH u), .int (nI (dp + 1)), .int (nI (ps + (ypas H (-1) (H.sh i) fa S).toNat)), .int fa] (zkV (zFx t) fun IL5 => gX0_goOn xs (e + 5) Q 64 [.ref 110, .ref (zH u), .int (nI dp), .int (nI ps), .int fa, .ref (114 + 2 * dp), .int (nI (l + 1)), .int (nI (i + 1)), w8, w9] [] (zFx t, IL5)) := fun w8 w9 => by
              refine ih (dp + 1) (uu ||| 2 ^ i) _ _ (pre ++ [i]) q I4 _ (e + 5) (by omega) (by omega) r8 u2 (by omega) hC4 s4 b2 pl2 pre2 hm4 (by omega) (fun I5 f5 m5 => kV ?_)
              refine ihm (i + 1) _ I5 w8 w9 (by omega) (ygf_tr fr (ygf_tr g4 (ygf_up f5))) m5 hq
            cases hp : ypas H (-1) (H.sh i) fa S
            · refine z0 ?_
              have := call (.ref (114 + 2 * (dp + 1))) (.int 0)
              rw [hp] at this
              rw [Int32.add_zero]
              simp only [nI_1]
              exact this
            · refine z1 ?_
              have := call (.ref (114 + 2 * (dp + 1))) (.int 1)
              rw [hp] at this
              simp only [nI_1]
              exact this
          · rw [eb] at hb
            rw [hb] at hq
            rw [nI_1]
            exact ihm (i + 1) q M w8 w9 (by omega) fr hmq hq
      exact loop H.k 0 p IL _ _ (by omega) ygf_rf hm hQ
end AGENDA
