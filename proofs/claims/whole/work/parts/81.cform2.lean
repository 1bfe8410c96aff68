/-! the class reads a formula: units, one, the whole -/
section CFORM2
variable {xs : List Int32} {d : Nat} {Q : zQ} {t u : Bool} {IL : zIL} {B : Nat → Nat} {n : Nat}
theorem ypC_u {p : yps} (hp : ypC u B n p IL) : ypC u B n (yps.mk p.tk p.W (p.u + 1)) (zwi IL (zH u + 4) 1 (nI (p.u + 1))) ∧ yff u IL (zwi IL (zH u + 4) 1 (nI (p.u + 1))) := by
  have g := zH_ge u
  have fr : ∀ c j, ¬ (c = zH u + 4 ∧ j = 1) → (zwi IL (zH u + 4) 1 (nI (p.u + 1))).1 c j = IL.1 c j := fun c j h => by
    by_cases e : c = zH u + 4
    · subst e
      rw [zwi_at, if_neg (by omega)]
    · rw [zwi_ne e]
  exact ⟨⟨⟨by rw [fr 1 _ (by omega)]; exact hp.1.1, fun j hj => by rw [fr 2 _ (by omega)]; exact hp.1.2.1 j hj, hp.1.2.2⟩, ⟨by rw [fr 1 _ (by omega)]; exact hp.2.1.1, by rw [fr 1 _ (by omega)]; exact hp.2.1.2.1, by rw [fr 1 _ (by omega)]; exact hp.2.1.2.2.1, fun z => by rw [fr 1 _ (by omega)]; exact hp.2.1.2.2.2.1 z, hp.2.1.2.2.2.2.1, by rw [fr 1 _ (by omega)]; exact hp.2.1.2.2.2.2.2⟩, by rw [fr 1 _ (by omega)]; exact hp.2.2.1, by rw [fr _ 0 (by omega)]; exact hp.2.2.2.1, by rw [zwi_at, if_pos rfl]; rfl, fun j hj => by rw [fr _ _ (by omega)]; exact hp.2.2.2.2.2 j hj⟩, fun c j _ b _ => fr c j (by omega), fun _ _ _ => rfl⟩
theorem c_unit {r : Nat} {E : yRF} (hr : r ≤ 7) (hn : n ≤ 1600) (hB : ∀ j, j < n → B j < 256) (hE : 0 < r → yBB n 1 E) (hI : ∀ r', r = r' + 1 → ycX B n 61 (6 * r' + 11) r' E) : ycX B n 66 (6 * r + 6) r (yUn B n E r) := by
  intro xs D Q t u IL p x hD hx hp hO hl hu hQ
  obtain ⟨D, rfl⟩ : ∃ D', D = D' + 6 := ⟨D - 6, by omega⟩
  have g := zH_ge u
  have k1 := hp.2.1.1
  have k2 := hO.2.2.2.2.2
  -- refused
  have no : ∀ (x3 x4 : Int32), (yUn B n E r p = (yrf p.tk, p)) → gX5_unit xs (D + 5) Q 89 [.ref 1, .ref (zH u + 4), .int x, .int x3, .int x4] [] (zFx t, IL) := fun x3 x4 e => by
    rw [e] at hQ
    exact sX5_unit_89 t u x x3 x4 IL (c_refuseP (d := D + 3) hp hO (by omega) (fun I1 f1 h1 => kV (hQ I1 f1 h1)))
  have un : ypC u B n (yps.mk p.tk p.W (p.u + 1)) (zwi IL (zH u + 4) 1 (nI (p.u + 1))) ∧ yff u IL (zwi IL (zH u + 4) 1 (nI (p.u + 1))) := ypC_u hp
  -- it may be a unit
  have go : ∀ (x3 : Int32), ((p.tk.k = 2 ∨ p.tk.k = 40) ∧ x3 = 0 ∨ yinp p.tk.k = true ∧ x3 = 1) → (p.tk.k = 40 → 0 < r) → gX5_unit xs (D + 5) Q 75 [.ref 1, .ref (zH u + 4), .int x, .int x3, .int 0] [] (zFx t, IL) := fun x3 hk hk4 => by
    have hu1 := hp.2.2.2.2.1
    refine sX5_unit_75 t u x x3 0 IL (z0 ?_)
    rw [hu1]
    rcases Nat.lt_or_ge p.u 30 with q | q
    · refine zd_t (n := 30) rfl q (by decide) ?_
      rw [nI_1]
      have k1' := un.1.2.1.1
      refine zkn (c := 40) k1' rfl (by show p.tk.k ≤ 4000; omega) (by decide) (fun h4 => ?_) (fun h4 => ?_)
      · have h4' : p.tk.k = 40 := h4
        obtain ⟨r', er⟩ : ∃ r', r = r' + 1 := ⟨r - 1, by have := hk4 h4'; omega⟩
        have hO' := ytkO_nt hB hO
        refine c_adv (d := D) (p := yps.mk p.tk p.W (p.u + 1)) hn hB un.1 hO (fun I1 f1 h1 => kV ?_)
        have ex : x + 1 = nI (7 - r') := by rw [hx, nI_1]; congr 1; omega
        have c1 : ¬ ((p.tk.k = 2 ∨ yinp p.tk.k = true) ∧ p.u < 30) := fun z => by
          rcases z.1 with w | w
          · omega
          · have : 112 ≤ p.tk.k ∧ p.tk.k ≤ 117 := of_decide_eq_true w
            omega
        unfold yUn at hQ
        simp only [if_neg c1, if_pos (show p.tk.k = 40 ∧ 0 < r ∧ p.u < 30 from ⟨h4', hk4 h4', q⟩)] at hQ
        refine hI r' er xs _ _ t u I1 (yps.mk (ynt B n p.tk) p.W (p.u + 1)) _ (by omega) ex h1 hO' (by show p.W.length ≤ 9 * (p.u + 1); omega) q (fun I2 f2 h2 => kV ?_)
        have b := hE (by omega) (yps.mk (ynt B n p.tk) p.W (p.u + 1)) hO'
        have bl := yb_len (p := yps.mk (ynt B n p.tk) p.W (p.u + 1)) (hE (by omega)) hO' (by show p.W.length ≤ 9 * (p.u + 1); omega)
        generalize E (yps.mk (ynt B n p.tk) p.W (p.u + 1)) = e at b bl h2 hQ
        have ff := yff_tr un.2 (yff_tr f1 f2)
        by_cases h0 : e.1 = 0
        · simp only [if_pos h0] at hQ
          obtain ⟨D1, eD⟩ : ∃ D1, D + 5 = D1 + 6 := ⟨D - 1, by omega⟩
          rw [eD]
          exact c_takeP (c := 41) hn hB rfl (by decide) (h2.1 h0) b.1 (by have := bl h0; omega) (fun I3 f3 h3 => kV (hQ I3 (yff_tr ff f3) h3))
        · simp only [if_neg h0] at hQ
          exact c_takeX (by rw [(h2.2 h0).1]; exact nI_ne h0 (by have := b.2.1; omega)) (kV (hQ I2 ff h2))
      · have h4' : p.tk.k ≠ 40 := h4
        have c1 : (p.tk.k = 2 ∨ yinp p.tk.k = true) ∧ p.u < 30 := ⟨hk.elim (fun w => Or.inl (w.1.resolve_right h4')) (fun w => Or.inr w.1), q⟩
        unfold yUn at hQ
        simp only [if_pos c1] at hQ
        refine zdec (fun z3 => ?_) (fun z3 => ?_)
        · have h2 : p.tk.k = 2 := by
            rcases hk with w | w
            · exact w.1.resolve_right h4'
            · exact absurd (w.2.symm.trans z3) (by decide)
          refine c_addS (d := D + 4) un.1 (by show p.W.length < 270; omega) (fun I2 f2 h2' => kV (c_adv (d := D) hn hB h2' hO (fun I3 f3 h3 => kV (hQ I3 (yff_tr un.2 (yff_tr f2 f3)) ?_))))
          have e : ystp p.tk = (zwi IL (zH u + 4) 1 (nI (p.u + 1))).1 1 10 := by
            unfold ystp
            rw [if_pos h2]
            exact (un.1.2.1.2.2.2.1 h2).symm
          rw [e]
          exact ypP_ok h3
        · have h2 : p.tk.k ≠ 2 := fun w2 => by
            rcases hk with w | w
            · exact z3 w.2
            · have : 112 ≤ p.tk.k ∧ p.tk.k ≤ 117 := of_decide_eq_true w.1
              omega
          refine c_addS (d := D + 4) un.1 (by show p.W.length < 270; omega) (fun I2 f2 h2' => kV (c_adv (d := D) hn hB h2' hO (fun I3 f3 h3 => kV (hQ I3 (yff_tr un.2 (yff_tr f2 f3)) ?_))))
          have e : ystp p.tk = -((zwi IL (zH u + 4) 1 (nI (p.u + 1))).1 1 7) := by
            unfold ystp
            rw [if_neg h2, k1']
            rfl
          rw [e]
          exact ypP_ok h3
    · refine zd_f (n := 30) rfl q (by omega) (no _ _ ?_)
      unfold yUn
      rw [if_neg (by omega), if_neg (by omega)]
  -- the sorts of tokens
  refine sX5_unit (d := D + 5) t u x IL (zdec (fun _ => ?_) (fun z => absurd hp.2.2.1 z))
  have k7 : ∀ A C : Prop, (0 < r → A) → (r = 0 → C) → zif2 (decide (x < 7)) A C := fun A C ha hc => by
    rw [hx]
    rcases Nat.lt_or_ge (7 - r) 7 with q | q
    · exact zd_t (n := 7) rfl q (by decide) (ha (by omega))
    · exact zd_f (n := 7) rfl q (by omega) (hc (by omega))
  have lo : p.tk.k < 112 → gX5_unit xs (D + 5) Q 30 [.ref 1, .ref (zH u + 4), .int x, .retAddr 0, .retAddr 0] [] (zFx t, IL) := fun hlo => by
    have ni : ¬ yinp p.tk.k = true := fun w => by
      have : 112 ≤ p.tk.k ∧ p.tk.k ≤ 117 := of_decide_eq_true w
      omega
    refine sX5_unit_30 t u x _ _ IL (zkn (c := 40) k1 rfl (by omega) (by decide) (fun h4 => k7 _ _ (fun hr0 => ?_) (fun hr0 => ?_)) (fun h4 => ?_))
    · exact sX5_unit_51 t u x 0 _ IL (zkn (c := 2) k1 rfl (by omega) (by decide) (fun h2 => by omega) (fun h2 => zkn (c := 40) k1 rfl (by omega) (by decide) (fun _ => go 0 (Or.inl ⟨Or.inr h4, rfl⟩) (fun _ => hr0)) (fun w => absurd h4 w)))
    · refine zkn (c := 2) k1 rfl (by omega) (by decide) (fun h2 => by omega) (fun h2 => zkn (c := 40) k1 rfl (by omega) (by decide) (fun _ => ?_) (fun w => absurd h4 w))
      refine sX5_unit_75 t u x 0 1 IL (z1 (no _ _ ?_))
      unfold yUn
      rw [if_neg (fun w => w.1.elim (fun q => by omega) ni), if_neg (by omega)]
    · refine sX5_unit_51 t u x 0 _ IL (zkn (c := 2) k1 rfl (by omega) (by decide) (fun h2 => go 0 (Or.inl ⟨Or.inl h2, rfl⟩) (fun w => absurd w h4)) (fun h2 => zkn (c := 40) k1 rfl (by omega) (by decide) (fun w => absurd w h4) (fun _ => z0 (no _ _ ?_))))
      unfold yUn
      rw [if_neg (fun w => w.1.elim h2 ni), if_neg (fun w => h4 w.1)]
  refine zln (c := 112) k1 rfl (by omega) (by decide) lo (fun hge => ?_)
  have hin : yinp p.tk.k = true := decide_eq_true ⟨hge, k2⟩
  refine zdec (fun z => ?_) (fun _ => ?_)
  · rw [k1] at z
    have := (nI_ltI (a := 117) (by omega) (by omega)).mp z
    omega
  · refine zkn (c := 40) k1 rfl (by omega) (by decide) (fun h4 => by omega) (fun h4 => ?_)
    exact sX5_unit_51 t u x 1 _ IL (zkn (c := 2) k1 rfl (by omega) (by decide) (fun h2 => by omega) (fun h2 => zkn (c := 40) k1 rfl (by omega) (by decide) (fun w => by omega) (fun _ => z1 (go 1 (Or.inr ⟨hin, rfl⟩) (fun w => absurd w h4)))))
theorem c_one {r : Nat} {O E : yRF} (hr : r ≤ 7) (hn : n ≤ 1600) (hB : ∀ j, j < n → B j < 256) (hE : 0 < r → yBB n 1 E) (hOb : 0 < r → yBB n (9 - r) O) (hS : ycX B n 64 (6 * r + 8) r (ySu B n E r)) (hI : ∀ r', r = r' + 1 → ycX B n 63 (6 * r' + 9) r' O) : ycX B n 63 (6 * r + 9) r (yOn B n O E r) := by
  intro xs D Q t u IL p x hD hx hp hO hl hu hQ
  obtain ⟨D, rfl⟩ : ∃ D', D = D' + 6 := ⟨D - 6, by omega⟩
  have k1 := hp.2.1.1
  have k2 := hO.2.2.2.2.2
  have hb : yBB n 8 (ySu B n E r) := ySu_B hB hE
  refine sX5_one (d := D + 5) t u x IL (zdec (fun _ => zkn (c := 111) k1 rfl (by omega) (by decide) (fun h => ?_) (fun h => ?_)) (fun z => absurd hp.2.2.1 z))
  · unfold yOn at hQ
    simp only [if_pos h] at hQ
    rw [hx]
    rcases Nat.lt_or_ge (7 - r) 7 with q | q
    · have r0 : r ≠ 0 := by omega
      obtain ⟨r', er⟩ : ∃ r', r = r' + 1 := ⟨r - 1, by omega⟩
      simp only [if_neg r0] at hQ
      refine zd_t (n := 7) rfl q (by decide) ?_
      rw [nI_1]
      refine c_bin (r := r') hn hB (hI r' er) (hOb (by omega)) (by omega) (by omega) (by omega) (by congr 1; omega) (by rw [h]; rfl) hp hO hl hu (fun I1 f1 h1 => hQ I1 f1 ?_)
      unfold yb2 at h1
      rw [h] at h1
      exact h1
    · have r0 : r = 0 := by omega
      simp only [if_pos r0] at hQ
      refine zd_f (n := 7) rfl q (by omega) (c_fail (d := D + 4) (c := 2) rfl hp.2.2.1 hp.2.1.2.1 (fun I1 f1 f2 e1 e2 => kV (hQ I1 (yff_f f1 f2) ⟨fun z => absurd (show (2 : Nat) = 0 from z) (by decide), fun _ => ypX_f (p := p) hp (by omega) f1 e1 e2⟩)))
  · unfold yOn yRl at hQ
    simp only [if_neg h] at hQ
    refine hS xs _ _ t u IL p x (by omega) hx hp hO hl hu (fun I5 f5 h5 => kV ?_)
    have b := hb p hO
    have bl := yb_len hb hO hl
    generalize ySu B n E r p = e at b bl h5 hQ
    by_cases h0 : e.1 = 0
    · simp only [if_pos h0] at hQ
      have hp5 := h5.1 h0
      have k5 := hp5.2.1.1
      have k6 := b.1.2.2.2.2.2
      have l5 := bl h0
      by_cases hr2 : yrel e.2.tk.k = true
      · simp only [if_pos hr2] at hQ
        have k7 : e.2.tk.k = 60 ∨ e.2.tk.k = 62 ∨ e.2.tk.k = 61 := of_decide_eq_true hr2
        have nx : ∀ IL', yff u I5 IL' → ypP u B n (yb2 B n (ySu B n E r) e.2) IL' → Q (zFx t, IL') none := fun IL' a b => hQ IL' (yff_tr f5 a) b
        refine zdec (fun _ => zkn (c := 60) k5 rfl (by omega) (by decide) (fun _ => ?_) (fun n1 => zkn (c := 62) k5 rfl (by omega) (by decide) (fun _ => ?_) (fun n2 => zkn (c := 61) k5 rfl (by omega) (by decide) (fun _ => ?_) (fun n3 => by omega)))) (fun z => absurd hp5.2.2.1 z)
        · exact c_bin hn hB hS hb (by decide) (by omega) (by omega) hx (by rw [k5]) hp5 b.1 (by omega) l5.2 nx
        · exact c_bin hn hB hS hb (by decide) (by omega) (by omega) hx (by rw [k5]) hp5 b.1 (by omega) l5.2 nx
        · exact c_bin hn hB hS hb (by decide) (by omega) (by omega) hx (by rw [k5]) hp5 b.1 (by omega) l5.2 nx
      · simp only [if_neg hr2] at hQ
        have k7 : ¬ (e.2.tk.k = 60 ∨ e.2.tk.k = 62 ∨ e.2.tk.k = 61) := fun z => hr2 (decide_eq_true z)
        exact zdec (fun _ => zkn (c := 60) k5 rfl (by omega) (by decide) (fun _ => by omega) (fun n1 => zkn (c := 62) k5 rfl (by omega) (by decide) (fun _ => by omega) (fun n2 => zkn (c := 61) k5 rfl (by omega) (by decide) (fun _ => by omega) (fun n3 => hQ I5 f5 h5)))) (fun z => absurd hp5.2.2.1 z)
    · simp only [if_neg h0] at hQ
      exact zdec (fun z => absurd z (by rw [(h5.2 h0).1]; exact nI_ne h0 (by have := b.2.1; omega))) (fun _ => hQ I5 f5 h5)
theorem c_oneR (hn : n ≤ 1600) (hB : ∀ j, j < n → B j < 256) : ∀ r, r ≤ 7 → ycX B n 63 (6 * r + 9) r (yOr B n r)
  | 0, hr => by
    have hE : 0 < 0 → yBB n 1 yDu := fun h => absurd h (by decide)
    have hU : ycX B n 66 (6 * 0 + 6) 0 (yUn B n yDu 0) := c_unit hr hn hB hE (fun r' e => by omega)
    exact c_one hr hn hB hE (fun h => absurd h (by decide)) (c_sum hn hB hE (c_term hn hB hE hU)) (fun r' e => by omega)
  | r + 1, hr => by
    have ih := c_oneR hn hB r (by omega)
    have bo := yOr_B (n := n) hB r (by omega)
    have hE : 0 < r + 1 → yBB n 1 (yEi B n (yOr B n r)) := fun _ => yEi_B hB (by decide) (yBB_le bo (by omega))
    have hei : ycX B n 61 (6 * r + 11) r (yEi B n (yOr B n r)) := c_either hn hB (yBo_B hB (by decide) (yBB_le bo (show 1 ≤ 8 - r by omega))) (by decide) (c_both hn hB bo (by omega) ih)
    have hU : ycX B n 66 (6 * (r + 1) + 6) (r + 1) (yUn B n (yEi B n (yOr B n r)) (r + 1)) := c_unit hr hn hB hE (fun r' e => by
      have : r' = r := by omega
      subst this
      exact hei)
    exact c_one hr hn hB hE (fun _ => yBB_le bo (by omega)) (c_sum hn hB hE (c_term hn hB hE hU)) (fun r' e => by
      have : r' = r := by omega
      subst this
      exact ih)
theorem c_eitherT (hn : n ≤ 1600) (hB : ∀ j, j < n → B j < 256) : ycX B n 61 53 7 (yEi B n (yOr B n 7)) :=
  c_either (r := 7) (c := 1) hn hB (yBo_B hB (by decide) (yBB_le (yOr_B hB 7 (by decide)) (by decide))) (by decide) (c_both hn hB (yOr_B hB 7 (by decide)) (by decide) (c_oneR hn hB 7 (by decide)))
end CFORM2
