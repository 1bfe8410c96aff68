/-! the class reads a text -/
section CTELL
variable {xs : List Int32} {d : Nat} {Q : zQ} {t u : Bool} {IL : zIL} {B : Nat → Nat} {n : Nat}
theorem y_once {x : Int32} {i : Nat} (hi : i < 32) : (x &&& (1 <<< (nI i &&& 31)) = 0) ↔ bt x i = false := by
  refine ⟨fun h => ?_, fun h => ?_⟩
  · have := congrArg (fun v => bt v i) h
    simp only [b_and, b_one hi hi, b_0, decide_true, Bool.and_true] at this
    exact this
  · apply b_ext
    intro j hj
    rw [b_and, b_one hi hj, b_0]
    by_cases e : j = i
    · subst e; rw [h, Bool.false_and]
    · rw [decide_eq_false e, Bool.and_false]
/-- the first word of a line that stands once -/
theorem c_once {Z : yZ} {i : Nat} (hn : n ≤ 1600) (hB : ∀ j, j < n → B j < 256) (hZ : yZC u B n Z IL) (hI : yZI n Z) (hi : 2 ≤ i ∧ i ≤ 6) (hk : Z.tk.k = 100 + i) (hQ : ∀ IL', (∀ c j, ¬ (c = 1 ∧ (j = 1 ∨ j = 2 ∨ (6 ≤ j ∧ j ≤ 10))) → IL'.1 c j = IL.1 c j) → (∀ c j, ¬ (c = 1 ∧ j = 11) → IL'.2 c j = IL.2 c j) → (Z.fl i = true → yS B n (2, Z.tk) IL') → (Z.fl i = false → yS B n (0, ynt B n Z.tk) IL' ∧ ∀ i', 2 ≤ i' → i' ≤ 6 → bt (IL'.1 1 6) i' = yfu Z.fl i i') → Q (zFx t, IL') none) : zcall xs (d + 6) 67 (zFx t, IL) [.ref 1] Q := by
  refine sX5_takeOnce t IL ?_
  have e7 : IL.1 1 7 - 100 = nI i := by
    rw [hZ.2.1.1, hk, show (100 : Int32) = nI 100 from rfl, pk_sub (by omega)]
    congr 1
    omega
  rw [e7]
  have hb := hZ.2.2.2.1 i hi.1 hi.2
  refine zdec (fun z => ?_) (fun z => ?_)
  · have z' := (y_once (by omega)).mp z
    rw [hb] at z'
    have fw : ∀ c j, ¬ (c = 1 ∧ j = 6) → (zwi IL 1 6 (IL.1 1 6 ||| 1 <<< (nI i &&& 31))).1 c j = IL.1 c j := fun c j q => by
      by_cases e : c = 1
      · subst e
        rw [zwi_at, if_neg (by omega)]
      · rw [zwi_ne e]
    have w6 : (zwi IL 1 6 (IL.1 1 6 ||| 1 <<< (nI i &&& 31))).1 1 6 = IL.1 1 6 ||| 1 <<< (nI i &&& 31) := by rw [zwi_at, if_pos rfl]
    have w2 : (zwi IL 1 6 (IL.1 1 6 ||| 1 <<< (nI i &&& 31))).2 = IL.2 := rfl
    generalize zwi IL 1 6 (IL.1 1 6 ||| 1 <<< (nI i &&& 31)) = J at fw w6 w2 ⊢
    have tpJ : ytp n B J := ⟨by rw [fw 1 0 (by omega)]; exact hZ.1.1, fun j hj => by rw [fw 2 j (by omega)]; exact hZ.1.2.1 j hj, fun w hw => by rw [w2]; exact hZ.1.2.2 w hw⟩
    refine c_advS hn hB tpJ hI.1 (by rw [fw 1 9 (by omega)]; exact hZ.2.1.2.2.1) (by rw [fw 1 2 (by omega)]; exact hZ.2.1.2.2.2.2.2) (by rw [fw 1 1 (by omega)]; exact hZ.2.2.1) (fun I1 k1 S1 => kV (hQ I1 (fun c j q => by rw [k1.1 c j (by omega)]; exact fw c j (by omega)) (fun c j q => by rw [k1.2 c j q, w2]) (fun q => by rw [z'] at q; cases q) (fun _ => ⟨S1, fun i' h2 h6 => ?_⟩)))
    rw [k1.1 1 6 (by omega), w6, b_or, hZ.2.2.2.1 i' h2 h6, b_one (by omega) (by omega)]
    unfold yfu
    by_cases e : i' = i
    · rw [if_pos e, decide_eq_true e, Bool.or_true]
    · rw [if_neg e, decide_eq_false e, Bool.or_false]
  · have z' : Z.fl i = true := by
      rw [← hb]
      cases q : bt (IL.1 1 6) i
      · exact absurd ((y_once (by omega)).mpr q) z
      · rfl
    exact c_failS (d := d + 4) (c := 2) rfl (by decide) (by decide) hZ.1 hI.1 hZ.2.1 hZ.2.2.1 (fun I1 k1 S1 => kV (hQ I1 (fun c j q => k1.1 c j (by omega)) k1.2 (fun _ => S1) (fun q => by rw [z'] at q; cases q)))
theorem yHn_C {H : yH} {i : Nat} {v : Int32} {A : zIL} (h : yCH u H A) (hi : 3 ≤ i ∧ i ≤ 6) : yCH u (yHn H i v) (zwi A (zH u) (i + 3) v) := by
  have a0 : ∀ j, (zwi A (zH u) (i + 3) v).1 (zH u) j = if j = i + 3 then v else A.1 (zH u) j := fun j => zwi_at
  have a1 : ∀ k, k ≠ 0 → ∀ j, (zwi A (zH u) (i + 3) v).1 (zH u + k) j = A.1 (zH u + k) j := fun k hk j => by rw [zwi_ne (by omega)]
  refine yCH.mk ?_ ?_ ?_ ?_ ?_ ?_ ?_ ?_ ?_ ?_ ?_ ?_ ?_
  · rw [a0, if_neg (by omega)]; exact h.mem
  · rw [a0, if_neg (by omega)]; exact h.out
  · rw [a0, if_neg (by omega)]; exact h.cla
  · rw [a0]
    show _ = if i = 3 then v else H.cock
    by_cases e : i = 3
    · rw [if_pos (by omega), if_pos e]
    · rw [if_neg (by omega), if_neg e]; exact h.cock
  · rw [a0]
    show _ = if i = 4 then v else H.quota
    by_cases e : i = 4
    · rw [if_pos (by omega), if_pos e]
    · rw [if_neg (by omega), if_neg e]; exact h.quota
  · rw [a0]
    show _ = if i = 5 then v else H.puns
    by_cases e : i = 5
    · rw [if_pos (by omega), if_pos e]
    · rw [if_neg (by omega), if_neg e]; exact h.puns
  · rw [a0]
    show _ = if i = 6 then v else H.draw
    by_cases e : i = 6
    · rw [if_pos (by omega), if_pos e]
    · rw [if_neg (by omega), if_neg e]; exact h.draw
  · intro j hj; rw [a1 1 (by decide)]; exact h.mi j hj
  · intro j hj; rw [a1 2 (by decide)]; exact h.vo j hj
  · intro j hj; rw [a1 3 (by decide)]; exact h.sh j hj
  · rw [a1 4 (by decide)]; exact h.len
  · rw [a1 4 (by decide)]; exact h.units
  · intro j hj; rw [a1 6 (by decide)]; exact h.ss j hj
/-- a line with one number; the House's field is written behind it -/
theorem c_numberLine {Z : yZ} {i lo hi : Nat} {x y : Int32} (hn : n ≤ 1600) (hB : ∀ j, j < n → B j < 256) (hx : x = nI lo) (hy : y = nI hi) (hlo : lo ≤ 10000) (hhi : hi ≤ 10000) (hZ : yZC u B n Z IL) (hI : yZI n Z) (hi3 : 3 ≤ i ∧ i ≤ 6) (hk : Z.tk.k = 100 + i) (hQ : ∀ IL' v, yfL u IL (zwi IL' (zH u) (i + 3) v) → yZP u B n (yLnu B n i lo hi Z) (zwi IL' (zH u) (i + 3) v) → Q (zFx t, IL') (some (.int v))) : zcall xs (d + 7) 59 (zFx t, IL) [.ref 1, .int x, .int y] Q := by
  have g := zH_ge u
  refine sX5_numberLine t x y IL (c_once (d := d) hn hB hZ hI (by omega) hk (fun I1 f1 f2 hT hF => kV ?_))
  unfold yLnu at hQ
  have fin : ∀ (I2 I3 : zIL) (v : Int32), yfk I1 I3 → yfL u IL (zwi I3 (zH u) (i + 3) v) := fun I2 I3 v k => ⟨fun c j a b => by rw [zwi_ne (by omega), k.1 c j (by omega)]; exact f1 c j (by omega), fun c j a _ _ => by show I3.2 c j = _; rw [k.2 c j a]; exact f2 c j a⟩
  have w11 : ∀ (I3 : zIL) (v : Int32) j, (zwi I3 (zH u) (i + 3) v).1 1 j = I3.1 1 j := fun I3 v j => by rw [zwi_ne (by omega)]
  cases hf : Z.fl i with
  | true =>
    rw [hf, if_pos rfl] at hQ
    have S1 := hT hf
    refine c_takeNS (d := d) hn hB hx hy hlo hhi S1 (fun I2 v k2 S2 _ => kI ?_)
    refine c_takeS (d := d) (c := 59) hn hB rfl (by decide) S2 (fun I3 k3 S3 => kV (hQ I3 v (fin I2 I3 v (yfk_tr k2 k3)) ⟨fun z => absurd (show (2 : Nat) = 0 from z) (by decide), fun _ => ?_⟩))
    rw [w11, w11]
    exact S3.2.2.2.2 (show (2 : Nat) ≠ 0 by decide)
  | false =>
    rw [hf, if_neg (by decide)] at hQ
    obtain ⟨S1, b6⟩ := hF hf
    refine c_takeNS (d := d) hn hB hx hy hlo hhi S1 (fun I2 v k2 S2 ev => kI ?_)
    refine c_takeS (d := d) (c := 59) hn hB rfl (by decide) S2 (fun I3 k3 S3 => kV (hQ I3 v (fin I2 I3 v (yfk_tr k2 k3)) ?_))
    have kk := yfk_tr k2 k3
    have S3' : yS B n (yn3 B n lo hi Z) I3 := S3
    by_cases h0 : (yn3 B n lo hi Z).1 = 0
    · rw [if_pos h0]
      obtain ⟨a2, b2, c2⟩ := ysp_0 (r := yn2 B n lo hi Z) h0
      obtain ⟨tk3, z3⟩ := S3'.2.2.2.1 h0
      have ev' : v = nI (ynt B n Z.tk).n := ev a2
      refine ⟨fun _ => ?_, fun z => absurd rfl z⟩
      rw [← ev']
      have g1 : ∀ c j, ¬ (zH u ≤ c ∧ c ≤ zH u + 7) → (zwi I3 (zH u) (i + 3) v).1 c j = I3.1 c j := fun c j q => by rw [zwi_ne (by omega)]
      refine yZC_mk (ytp_g (u := u) S3'.1 g1 rfl) (ytC_g (u := u) tk3 g1 rfl) (by rw [w11]; exact z3) (fun i' h2 h6 => ?_) (fun j hj => ?_) (fun j hj => ?_) (yHn_C ?_ hi3)
      · rw [w11, kk.1 1 6 (by omega)]
        exact b6 i' h2 h6
      · show I3.2 3 j = _
        rw [kk.2 3 j (by omega), f2 3 j (by omega)]
        exact hZ.2.2.2.2.1 j hj
      · show I3.2 4 j = _
        rw [kk.2 4 j (by omega), f2 4 j (by omega)]
        exact hZ.2.2.2.2.2.1 j hj
      · exact yCH_k hZ.2.2.2.2.2.2 (fun c j z => by rw [kk.1 c j (by omega)]; exact f1 c j (by omega))
    · rw [if_neg h0]
      refine ⟨fun z => absurd z h0, fun _ => ?_⟩
      rw [w11, w11]
      exact S3'.2.2.2.2 h0
theorem c_formulaLine {Z : yZ} {D : Nat} (hn : n ≤ 1600) (hB : ∀ j, j < n → B j < 256) (hD : 54 ≤ D) (hZ : yZC u B n Z IL) (hI : yZI n Z) (hk : Z.tk.k = 102) (hQ : ∀ IL', yfL u IL IL' → yZP u B n (yLf B n Z) IL' → Q (zFx t, IL') none) : zcall xs D 60 (zFx t, IL) [.ref 1, .ref (zH u + 4)] Q := by
  have g := zH_ge u
  obtain ⟨D, rfl⟩ : ∃ D', D = D' + 7 := ⟨D - 7, by omega⟩
  refine sX5_formulaLine (d := D + 6) t u IL (c_once (d := D) (i := 2) hn hB hZ hI (by decide) hk (fun I1 f1 f2 hT hF => kV ?_))
  unfold yLf at hQ
  cases hf : Z.fl 2 with
  | true =>
    rw [hf, if_pos rfl] at hQ
    have S1 := hT hf
    have ne := yS_ne S1 (show (2 : Nat) ≠ 0 by decide)
    have ff : yfL u IL I1 := ⟨fun c j a b => f1 c j (by omega), fun c j a _ _ => f2 c j a⟩
    -- either() with a fault standing
    have e61 : ∀ (Q' : zQ), Q' (zFx t, I1) none → zcall xs (D + 6) 61 (zFx t, I1) [.ref 1, .ref (zH u + 4), .int 0] Q' := fun Q' hq => by
      have u66 : ∀ (D' : Nat) (Q' : zQ), Q' (zFx t, I1) none → zcall xs (D' + 1) 66 (zFx t, I1) [.ref 1, .ref (zH u + 4), .int 0] Q' := fun D' Q' hq => sX5_unit t u 0 I1 (zdec (fun z => absurd z ne) (fun _ => hq))
      have u65 : ∀ (D' : Nat) (Q' : zQ), Q' (zFx t, I1) none → zcall xs (D' + 2) 65 (zFx t, I1) [.ref 1, .ref (zH u + 4), .int 0] Q' := fun D' Q' hq => sX5_term t u 0 I1 (u66 D' _ (kV (sX5_term_8 t u 0 _ _ I1 (zdec (fun _ => zdec (fun z => absurd z ne) (fun _ => hq)) (fun _ => hq)))))
      have u64 : ∀ (D' : Nat) (Q' : zQ), Q' (zFx t, I1) none → zcall xs (D' + 3) 64 (zFx t, I1) [.ref 1, .ref (zH u + 4), .int 0] Q' := fun D' Q' hq => sX5_sum t u 0 I1 (u65 D' _ (kV (sX5_sum_8 t u 0 _ _ I1 (zdec (fun _ => zdec (fun z => absurd z ne) (fun _ => hq)) (fun _ => hq)))))
      have u63 : ∀ (D' : Nat) (Q' : zQ), Q' (zFx t, I1) none → zcall xs (D' + 4) 63 (zFx t, I1) [.ref 1, .ref (zH u + 4), .int 0] Q' := fun D' Q' hq => sX5_one t u 0 I1 (zdec (fun z => absurd z ne) (fun _ => u64 D' _ (kV (zdec (fun z => absurd z ne) (fun _ => hq)))))
      have u62 : ∀ (D' : Nat) (Q' : zQ), Q' (zFx t, I1) none → zcall xs (D' + 5) 62 (zFx t, I1) [.ref 1, .ref (zH u + 4), .int 0] Q' := fun D' Q' hq => sX5_both t u 0 I1 (u63 D' _ (kV (sX5_both_8 t u 0 _ I1 (zdec (fun _ => zdec (fun z => absurd z ne) (fun _ => hq)) (fun _ => hq)))))
      exact sX5_either t u 0 I1 (u62 D _ (kV (sX5_either_8 t u 0 _ I1 (zdec (fun _ => zdec (fun z => absurd z ne) (fun _ => hq)) (fun _ => hq)))))
    refine e61 _ (kV (c_takeX (d := D + 5) ne (kV (hQ I1 ff ⟨fun z => absurd (show (2 : Nat) = 0 from z) (by decide), fun _ => S1.2.2.2.2 (show (2 : Nat) ≠ 0 by decide)⟩))))
  | false =>
    rw [hf, if_neg (by decide)] at hQ
    obtain ⟨S1, b6⟩ := hF hf
    obtain ⟨tk1, z1'⟩ := S1.2.2.2.1 rfl
    obtain ⟨s0, u0⟩ := hI.2.2.2.2.2.2.1 hf
    have CH1 : yCH u Z.H I1 := yCH_k hZ.2.2.2.2.2.2 (fun c j z => f1 c j (by omega))
    have P1 : ypC u B n (yps.mk (ynt B n Z.tk) [] 0) I1 := ⟨S1.1, tk1, z1', by rw [CH1.len, s0]; rfl, by rw [CH1.units, u0]; rfl, fun j hj => absurd hj (Nat.not_lt_zero j)⟩
    have hO' := ytkO_nt hB hI.1
    have ok := yEi_ok hB (ynt B n Z.tk) hO'
    refine c_eitherT hn hB xs _ _ t u I1 _ 0 (by omega) rfl P1 hO' (Nat.zero_le _) (by show (0 : Nat) ≤ 30; decide) (fun I2 g2 P2 => kV ?_)
    have e1 : yEi B n (yOr B n 7) (yps.mk (ynt B n Z.tk) [] 0) = yfE B n Z := rfl
    rw [e1] at ok P2
    have S2 : yS B n ((yfE B n Z).1, (yfE B n Z).2.tk) I2 := by
      refine ⟨⟨by rw [g2.1 1 0 (by omega) (by omega) (by omega)]; exact S1.1.1, fun j hj => by rw [g2.1 2 j (by omega) (by omega) (by omega)]; exact S1.1.2.1 j hj, fun w hw => by rw [g2.2 5 w (by omega)]; exact S1.1.2.2 w hw⟩, ok.1, by have := ok.2.1; show (yfE B n Z).1 ≤ 4; omega, fun z => ⟨(P2.1 z).2.1, (P2.1 z).2.2.1⟩, fun z => ⟨(P2.2 z).1, (P2.2 z).2.1⟩⟩
    refine c_takeS (d := D) (c := 59) hn hB rfl (by decide) S2 (fun I3 k3 S3 => kV (hQ I3 ?_ ?_))
    · exact ⟨fun c j a b => by rw [k3.1 c j (by omega), g2.1 c j (by omega) (by omega) (by omega)]; exact f1 c j (by omega), fun c j a _ _ => by rw [k3.2 c j a, g2.2 c j a]; exact f2 c j a⟩
    · have S3' : yS B n (yf2 B n Z) I3 := S3
      by_cases h0 : (yf2 B n Z).1 = 0
      · rw [if_pos h0]
        obtain ⟨a2, b2, c2⟩ := ysp_0 (r := ((yfE B n Z).1, (yfE B n Z).2.tk)) h0
        have a2' : (yfE B n Z).1 = 0 := a2
        obtain ⟨tk3, z3⟩ := S3'.2.2.2.1 h0
        have P3 := (P2.1 a2').2.2.2
        have l1 : ∀ c j, ¬ (c = zH u + 4 ∧ j ≤ 1) → c ≠ zH u + 6 → c ≠ 1 → I3.1 c j = IL.1 c j := fun c j q1 q2 q3 => by rw [k3.1 c j (by omega), g2.1 c j (by omega) q1 q2]; exact f1 c j (by omega)
        have l2 : ∀ c j, c ≠ 1 → I3.1 c j = I2.1 c j := fun c j q => k3.1 c j (by omega)
        refine ⟨fun _ => yZC_mk S3'.1 tk3 z3 (fun i' h2 h6 => ?_) (fun j hj => ?_) (fun j hj => ?_) ?_, fun z => absurd rfl z⟩
        · rw [k3.1 1 6 (by omega), g2.1 1 6 (by omega) (by omega) (by omega)]
          exact b6 i' h2 h6
        · rw [k3.2 3 j (by omega), g2.2 3 j (by omega), f2 3 j (by omega)]
          exact hZ.2.2.2.2.1 j hj
        · rw [k3.2 4 j (by omega), g2.2 4 j (by omega), f2 4 j (by omega)]
          exact hZ.2.2.2.2.2.1 j hj
        · have h := hZ.2.2.2.2.2.2
          generalize (yfE B n Z).2.W = W at P3
          generalize (yfE B n Z).2.u = k at P3
          refine yCH.mk ?_ ?_ ?_ ?_ ?_ ?_ ?_ ?_ ?_ ?_ ?_ ?_ ?_
          · rw [l1 _ _ (by omega) (by omega) (by omega)]; exact h.mem
          · rw [l1 _ _ (by omega) (by omega) (by omega)]; exact h.out
          · rw [l1 _ _ (by omega) (by omega) (by omega)]; exact h.cla
          · rw [l1 _ _ (by omega) (by omega) (by omega)]; exact h.cock
          · rw [l1 _ _ (by omega) (by omega) (by omega)]; exact h.quota
          · rw [l1 _ _ (by omega) (by omega) (by omega)]; exact h.puns
          · rw [l1 _ _ (by omega) (by omega) (by omega)]; exact h.draw
          · intro j hj; rw [l1 _ _ (by omega) (by omega) (by omega)]; exact h.mi j hj
          · intro j hj; rw [l1 _ _ (by omega) (by omega) (by omega)]; exact h.vo j hj
          · intro j hj; rw [l1 _ _ (by omega) (by omega) (by omega)]; exact h.sh j hj
          · rw [l2 _ _ (by omega)]; exact P3.1
          · rw [l2 _ _ (by omega)]; exact P3.2.1
          · intro j hj; rw [l2 _ _ (by omega)]; exact P3.2.2 j hj
      · rw [if_neg h0]
        exact ⟨fun z => absurd z h0, fun _ => S3'.2.2.2.2 h0⟩
end CTELL
