/-! the model reads all lines -/
theorem yZN_ok {B : Nat → Nat} {n : Nat} {IL : zIL} {a : ytkT} {m c : List (List Nat)} {f : Nat → Bool} {H : yH} (V : yV B n (0, a) IL) (h : yZF m c f H IL) : yZN B n (0, yZ.mk a m c f H) IL := ⟨fun _ => ⟨V.1, (V.2.2.2.1 rfl).1, (V.2.2.2.1 rfl).2, h⟩, fun z => absurd rfl z⟩
theorem yZN_ok2 {B : Nat → Nat} {n : Nat} {IL : zIL} {r : Nat × ytkT} {m c : List (List Nat)} {f : Nat → Bool} {H : yH} (V : yV B n r IL) (h0 : r.1 = 0) (h : yZF m c f H IL) : yZN B n (0, yZ.mk r.2 m c f H) IL := ⟨fun _ => ⟨V.1, (V.2.2.2.1 h0).1, (V.2.2.2.1 h0).2, h⟩, fun z => absurd rfl z⟩
theorem yZN_at {B : Nat → Nat} {n : Nat} {IL : zIL} {Z : yZ} {r : Nat × ytkT} (V : yV B n r IL) (h0 : ¬ r.1 = 0) : yZN B n (r.1, Z.at r.2) IL := ⟨fun z => absurd z h0, fun _ => V.2.2.2.2 h0⟩
theorem yZN_no {B : Nat → Nat} {n : Nat} {IL : zIL} {Z : yZ} {c : Nat} (V : yV B n (c, Z.tk) IL) (h0 : ¬ c = 0) : yZN B n (c, Z) IL := ⟨fun z => absurd z h0, fun _ => V.2.2.2.2 h0⟩
theorem yrf_k {a : ytkT} (h : 100 ≤ a.k) : yrf a = 2 := by unfold yrf; rw [if_neg (by omega)]
section READ
variable {xs : List Int32} {d : Nat} {Q : zQ} {t : Bool} {IL : zIL} {B : Nat → Nat} {n : Nat}
theorem l_238 {r : Nat × ytkT} (hn : n ≤ 1600) (hB : ∀ j, j < n → B j < 256) (V : yV B n r IL) (hQ : ∀ IL', yfy IL IL' → yV B n (ysp B n (yck 59) r) IL' → Q (zFx t, IL') none) : gX8_readLine xs (d + 5) Q 238 [.ref 145] [] (zFx t, IL) := by
  by_cases h0 : r.1 = 0
  · obtain ⟨tk, z2⟩ := V.2.2.2.1 h0
    have sr := ysrt_1 V.2.1.2.2.2.2.2
    unfold ysp yck at hQ
    rw [if_pos h0] at hQ
    refine sX8_readLine_238 t IL (zdec (fun _ => zkn (c := 59) tk.1 rfl (by omega) (by decide) (fun e => ?_) (fun e => ?_)) (fun z => absurd z2 z))
    · have k9 := (sr.2.2.2.1 59 (by decide) (by decide)).mp e
      rw [if_pos k9, if_pos rfl] at hQ
      exact sX8_readLine_259 t IL (zdec (fun _ => m_tokV (d := d + 3) hn hB V.1 V.2.1 tk (by omega) z2 (fun I1 f1 V1 => kV (sX8_readLine_270 t I1 (hQ I1 f1 V1)))) (fun z => absurd z2 z))
    · have k9 : ¬ r.2.k = 59 := fun q => e ((sr.2.2.2.1 59 (by decide) (by decide)).mpr q)
      rw [if_neg k9, if_neg (yrf_2 _).2] at hQ
      refine m_wrongV (d := d + 4) (c := 2) rfl (by decide) (by decide) V.1 V.2.1 tk z2 (fun I1 f1 V1 => kV ?_)
      have V1' : yV B n (yrf r.2, r.2) I1 := V1
      exact sX8_readLine_259 t I1 (zdec (fun z => absurd z (yV_ne V1' (yrf_2 _).2)) (fun _ => sX8_readLine_270 t I1 (hQ I1 f1 V1')))
  · rw [ysp_x h0] at hQ
    exact sX8_readLine_238 t IL (zdec (fun z => absurd z (yV_ne V h0)) (fun _ => sX8_readLine_259 t IL (zdec (fun z => absurd z (yV_ne V h0)) (fun _ => sX8_readLine_270 t IL (hQ IL yfy_rf V)))))
theorem l_nu {Z : yZ} {i lo hi : Nat} {w : Int64} {x y : Int32} (hn : n ≤ 1600) (hB : ∀ j, j < n → B j < 256) (h : yZM B n Z IL) (hI : yZI n Z) (hi3 : 3 ≤ i) (hi6 : i ≤ 6) (hw : w = y8 (ykw.getD i [])) (hx : x = nI lo) (hy : y = nI hi) (hlo : lo ≤ 10000) (hhi : hi ≤ 10000) (hk : Z.tk.k = 100 + i) (hf : Z.fl i = false) (hQ : ∀ IL', yfw IL IL' → yZN B n (yLnu B n i lo hi Z) IL' → Q (zFx t, IL') none) :
    zcall xs (d + 5) 168 (zFx t, zwi IL 145 (45 + i) 1) [.ref 145, .long w, .int x, .int y] (zkI (zFx t) fun IL2 y2 => gX8_readLine xs (d + 5) Q 238 [.ref 145] [] (zFx t, zwi IL2 145 (34 + i) y2)) := by
  have V0 : yV B n (0, Z.tk) (zwi IL 145 (45 + i) 1) := yV_w (yV_of h hI.1) (by decide) (fun _ => by omega)
  refine m_told (d := d + 1) (i := i) (lo := lo) (hi := hi) hn hB (by omega) hw hx hy hlo hhi V0 (fun I2 v f2 V2 e2 => kI ?_)
  have w1 : ysp B n (yck (100 + i)) (0, Z.tk) = (0, ynt B n Z.tk) := by
    unfold ysp yck
    show (if (0 : Nat) = 0 then (if (if Z.tk.k = 100 + i then 0 else yrf Z.tk) = 0 then (0, ynt B n Z.tk) else ((if Z.tk.k = 100 + i then 0 else yrf Z.tk), Z.tk)) else (0, Z.tk)) = _
    rw [if_pos hk, if_pos rfl, if_pos rfl]
  rw [w1] at V2 e2
  have V2' : yV B n (yn2 B n lo hi Z) I2 := V2
  have e2' : (yn2 B n lo hi Z).1 = 0 → v = nI (ynt B n Z.tk).n := e2
  have V3 := yV_w V2' (c := 145) (j := 34 + i) (v := v) (by decide) (fun _ => by omega)
  refine l_238 hn hB V3 (fun I4 f4 V4 => hQ I4 ?_ ?_)
  · exact yfw_tr (yfw_tr (yfw_w (Or.inl ⟨rfl, by omega⟩)) (yfw_y f2)) (yfw_tr (yfw_w (Or.inl ⟨rfl, by omega⟩)) (yfw_y f4))
  · have V4' : yV B n (yn3 B n lo hi Z) I4 := V4
    unfold yLnu
    rw [if_neg (by rw [hf]; decide)]
    by_cases q : (yn3 B n lo hi Z).1 = 0
    · rw [if_pos q]
      refine yZN_ok2 V4' q (yZF_n h.2.2.2 hi3 hi6 ?_ ?_ ?_ ?_)
      · rw [f4.1 145 _ (by omega), ywi_o (by omega), f2.1 145 _ (by omega), ywi_s]
      · rw [f4.1 145 _ (by omega), ywi_s]
        exact e2' (ysp_0 q).1
      · intro c j z
        rw [f4.1 c j (by omega), ywi_o (by omega), f2.1 c j (by omega), ywi_o (by omega)]
      · intro c j z
        rw [f4.2 c j z]
        exact f2.2 c j z
    · rw [if_neg q]
      exact yZN_at V4' q
theorem l_fo {Z : yZ} (hn : n ≤ 1600) (hB : ∀ j, j < n → B j < 256) (h : yZM B n Z IL) (hI : yZI n Z) (hk : Z.tk.k = 102) (hf : Z.fl 2 = false) (hQ : ∀ IL', yfw IL IL' → yZN B n (yLf B n Z) IL' → Q (zFx t, IL') none) :
    zcall xs (d + 5) 183 (zFx t, IL) [.ref 145] (zkV (zFx t) fun IL2 => gX8_readLine xs (d + 5) Q 238 [.ref 145] [] (zFx t, IL2)) := by
  have e20 : IL.1 145 20 = 0 := by rw [h.2.2.2.un]; exact (hI.2.2.2.2.2.2.1 hf).2
  have ok := yEi_ok hB _ (ytkO_nt hB hI.1)
  have W : ∀ I2 : zIL, (∀ c j, ¬ (c = 145 ∧ (j = 4 ∨ (6 ≤ j ∧ j ≤ 8) ∨ j = 2 ∨ j = 3 ∨ j = 17 ∨ j = 19 ∨ j = 20 ∨ (22 ≤ j ∧ j ≤ 24))) → c ≠ 148 → c ≠ 149 → c ≠ 152 → I2.1 c j = IL.1 c j) → (∀ c j, ¬ (c = 145 ∧ j = 9) → I2.2 c j = IL.2 c j) → yfw IL I2 := fun I2 f f2 => ⟨fun c j z => f c j (fun q => z (Or.inl ⟨q.1, by omega⟩)) (fun q => z (Or.inr (Or.inl q))) (fun q => z (Or.inr (Or.inr (Or.inl q)))) (fun q => z (Or.inr (Or.inr (Or.inr (Or.inl q))))), fun c j z _ => f2 c j z⟩
  have M : ∀ I2 : zIL, (∀ c j, ¬ (c = 145 ∧ (j = 4 ∨ (6 ≤ j ∧ j ≤ 8) ∨ j = 2 ∨ j = 3 ∨ j = 17 ∨ j = 19 ∨ j = 20 ∨ (22 ≤ j ∧ j ≤ 24))) → c ≠ 148 → c ≠ 149 → c ≠ 152 → I2.1 c j = IL.1 c j) → ymt n B I2 := fun I2 f => ⟨by rw [f 145 5 (by omega) (by decide) (by decide) (by decide)]; exact h.1.1, fun j hj => by rw [f 146 j (by omega) (by decide) (by decide) (by decide)]; exact h.1.2 j hj⟩
  unfold yLf at hQ
  rw [if_neg (by rw [hf]; decide)] at hQ
  unfold yf2 yfE at hQ
  refine m_formula hn hB h.1 h.2.1 hI.1 (by omega) h.2.2.1 e20 ?_ ?_
  · intro I2 q0 f f2 tkE z2 k2 u2 e24
    generalize yEi B n (yOr B n 7) (yps.mk (ynt B n Z.tk) [] 0) = E at hQ ok q0 tkE k2 u2
    have V : yV B n (E.1, E.2.tk) I2 := ⟨M I2 f, ok.1, by have := ok.2.1; show E.1 ≤ 4; omega, fun _ => ⟨tkE, z2⟩, fun z => absurd q0 z⟩
    refine kV (l_238 hn hB V (fun I4 f4 V4 => hQ I4 (yfw_tr (W I2 f f2) (yfw_y f4)) ?_))
    generalize ysp B n (yck 59) (E.1, E.2.tk) = r at V4
    by_cases q : r.1 = 0
    · rw [if_pos q]
      exact yZN_ok2 V4 q (yZF_y (yZF_f h.2.2.2 e24 u2 k2 f f2) f4)
    · rw [if_neg q]
      exact yZN_at V4 q
  · intro I2 q0 f f2 y
    generalize yEi B n (yOr B n 7) (yps.mk (ynt B n Z.tk) [] 0) = E at hQ ok q0 y
    have V : yV B n (E.1, E.2.tk) I2 := ⟨M I2 f, ok.1, by have := ok.2.1; show E.1 ≤ 4; omega, fun z => absurd z q0, fun _ => y⟩
    refine kV (l_238 hn hB V (fun I4 f4 V4 => hQ I4 (yfw_tr (W I2 f f2) (yfw_y f4)) ?_))
    have e : ysp B n (yck 59) (E.1, E.2.tk) = (E.1, E.2.tk) := ysp_x q0
    rw [e] at V4 ⊢
    rw [if_neg q0]
    exact yZN_at V4 q0
end READ
section QS
variable (B : Nat → Nat) (n : Nat)
def yQ6 (Z : yZ) : Nat × yZ := if Z.tk.k = 106 then yLnu B n 6 0 999 Z else (yrf Z.tk, Z)
def yQ5 (Z : yZ) : Nat × yZ := if Z.tk.k = 105 then yLnu B n 5 0 100 Z else yQ6 B n Z
def yQ4 (Z : yZ) : Nat × yZ := if Z.tk.k = 104 then yLnu B n 4 0 99 Z else yQ5 B n Z
def yQ3 (Z : yZ) : Nat × yZ := if Z.tk.k = 103 then yLnu B n 3 1 30 Z else yQ4 B n Z
def yQ2 (Z : yZ) : Nat × yZ := if Z.tk.k = 102 then yLf B n Z else yQ3 B n Z
def yQ1 (Z : yZ) : Nat × yZ := if Z.tk.k = 101 then yLc B n Z else yQ2 B n Z
end QS
section READ2
variable {xs : List Int32} {d : Nat} {Q : zQ} {t : Bool} {IL : zIL} {B : Nat → Nat} {n : Nat}
theorem yQ6_x {Z : yZ} (h : Z.tk.k ≤ 105) : yQ6 B n Z = (yrf Z.tk, Z) := if_neg (by omega)
theorem yQ5_x {Z : yZ} (h : Z.tk.k ≤ 104) : yQ5 B n Z = (yrf Z.tk, Z) := (if_neg (by omega)).trans (yQ6_x (by omega))
theorem yQ4_x {Z : yZ} (h : Z.tk.k ≤ 103) : yQ4 B n Z = (yrf Z.tk, Z) := (if_neg (by omega)).trans (yQ5_x (by omega))
theorem yQ3_x {Z : yZ} (h : Z.tk.k ≤ 102) : yQ3 B n Z = (yrf Z.tk, Z) := (if_neg (by omega)).trans (yQ4_x (by omega))
theorem yQ2_x {Z : yZ} (h : Z.tk.k ≤ 101) : yQ2 B n Z = (yrf Z.tk, Z) := (if_neg (by omega)).trans (yQ3_x (by omega))
theorem yQ1_x {Z : yZ} (h : Z.tk.k ≤ 100) : yQ1 B n Z = (yrf Z.tk, Z) := (if_neg (by omega)).trans (yQ2_x (by omega))
theorem yLnu_x {Z : yZ} {i lo hi : Nat} (f : Z.fl i = true) (hk : 100 ≤ Z.tk.k) : yLnu B n i lo hi Z = (yrf Z.tk, Z) := by
  unfold yLnu
  rw [if_pos f, yrf_k hk]
theorem r_233 {Z : yZ} (hn : n ≤ 1600) (hB : ∀ j, j < n → B j < 256) (h : yZM B n Z IL) (hI : yZI n Z) (hQ : ∀ IL', yfw IL IL' → yZN B n (yrf Z.tk, Z) IL' → Q (zFx t, IL') none) : gX8_readLine xs (d + 5) Q 233 [.ref 145] [] (zFx t, IL) := by
  refine sX8_readLine_233 t IL (m_wrongV (d := d + 4) (c := 2) rfl (by decide) (by decide) h.1 hI.1 h.2.1 h.2.2.1 (fun I1 f1 V1 => kV ?_))
  have V1' : yV B n (yrf Z.tk, Z.tk) I1 := V1
  refine l_238 hn hB V1' (fun I4 f4 V4 => hQ I4 (yfw_tr (yfw_y f1) (yfw_y f4)) ?_)
  have e : ysp B n (yck 59) (yrf Z.tk, Z.tk) = (yrf Z.tk, Z.tk) := ysp_x (yrf_2 _).2
  rw [e] at V4
  exact yZN_no V4 (yrf_2 _).2
theorem r_193 {Z : yZ} (hn : n ≤ 1600) (hB : ∀ j, j < n → B j < 256) (h : yZM B n Z IL) (hI : yZI n Z) (hQ : ∀ IL', yfw IL IL' → yZN B n (yQ6 B n Z) IL' → Q (zFx t, IL') none) : gX8_readLine xs (d + 5) Q 193 [.ref 145] [] (zFx t, IL) := by
  unfold yQ6 at hQ
  refine sX8_readLine_193 t IL (m_isWord (d := d + 4) (i := 6) (by decide) (by decide +kernel) h.2.1 hI.1.2 (fun e => kI (z1 ?_)) (fun e => kI (z0 ?_)))
  · rw [if_pos (show Z.tk.k = 106 from e)] at hQ
    rw [h.2.2.2.f6]
    refine zbb (fun f => l_nu (i := 6) hn hB h hI (by decide) (by decide) (by decide +kernel) rfl rfl (by decide) (by decide) e f hQ) (fun f => r_233 hn hB h hI (fun I1 f1 V => hQ I1 f1 ?_))
    rw [yLnu_x f (by omega)]; exact V
  · rw [if_neg (show ¬ Z.tk.k = 106 from e)] at hQ
    exact r_233 hn hB h hI hQ
theorem r_154 {Z : yZ} (hn : n ≤ 1600) (hB : ∀ j, j < n → B j < 256) (h : yZM B n Z IL) (hI : yZI n Z) (hQ : ∀ IL', yfw IL IL' → yZN B n (yQ5 B n Z) IL' → Q (zFx t, IL') none) : gX8_readLine xs (d + 5) Q 154 [.ref 145] [] (zFx t, IL) := by
  unfold yQ5 at hQ
  refine sX8_readLine_154 t IL (m_isWord (d := d + 4) (i := 5) (by decide) (by decide +kernel) h.2.1 hI.1.2 (fun e => kI (z1 ?_)) (fun e => kI (z0 ?_)))
  · rw [if_pos (show Z.tk.k = 105 from e)] at hQ
    rw [h.2.2.2.f5]
    refine zbb (fun f => l_nu (i := 5) hn hB h hI (by decide) (by decide) (by decide +kernel) rfl rfl (by decide) (by decide) e f hQ) (fun f => r_193 hn hB h hI (fun I1 f1 V => hQ I1 f1 ?_))
    rw [yQ6_x (by omega)] at V
    rw [yLnu_x f (by omega)]; exact V
  · rw [if_neg (show ¬ Z.tk.k = 105 from e)] at hQ
    exact r_193 hn hB h hI hQ
theorem r_115 {Z : yZ} (hn : n ≤ 1600) (hB : ∀ j, j < n → B j < 256) (h : yZM B n Z IL) (hI : yZI n Z) (hQ : ∀ IL', yfw IL IL' → yZN B n (yQ4 B n Z) IL' → Q (zFx t, IL') none) : gX8_readLine xs (d + 5) Q 115 [.ref 145] [] (zFx t, IL) := by
  unfold yQ4 at hQ
  refine sX8_readLine_115 t IL (m_isWord (d := d + 4) (i := 4) (by decide) (by decide +kernel) h.2.1 hI.1.2 (fun e => kI (z1 ?_)) (fun e => kI (z0 ?_)))
  · rw [if_pos (show Z.tk.k = 104 from e)] at hQ
    rw [h.2.2.2.f4]
    refine zbb (fun f => l_nu (i := 4) hn hB h hI (by decide) (by decide) (by decide +kernel) rfl rfl (by decide) (by decide) e f hQ) (fun f => r_154 hn hB h hI (fun I1 f1 V => hQ I1 f1 ?_))
    rw [yQ5_x (by omega)] at V
    rw [yLnu_x f (by omega)]; exact V
  · rw [if_neg (show ¬ Z.tk.k = 104 from e)] at hQ
    exact r_154 hn hB h hI hQ
theorem r_76 {Z : yZ} (hn : n ≤ 1600) (hB : ∀ j, j < n → B j < 256) (h : yZM B n Z IL) (hI : yZI n Z) (hQ : ∀ IL', yfw IL IL' → yZN B n (yQ3 B n Z) IL' → Q (zFx t, IL') none) : gX8_readLine xs (d + 5) Q 76 [.ref 145] [] (zFx t, IL) := by
  unfold yQ3 at hQ
  refine sX8_readLine_76 t IL (m_isWord (d := d + 4) (i := 3) (by decide) (by decide +kernel) h.2.1 hI.1.2 (fun e => kI (z1 ?_)) (fun e => kI (z0 ?_)))
  · rw [if_pos (show Z.tk.k = 103 from e)] at hQ
    rw [h.2.2.2.f3]
    refine zbb (fun f => l_nu (i := 3) hn hB h hI (by decide) (by decide) (by decide +kernel) rfl rfl (by decide) (by decide) e f hQ) (fun f => r_115 hn hB h hI (fun I1 f1 V => hQ I1 f1 ?_))
    rw [yQ4_x (by omega)] at V
    rw [yLnu_x f (by omega)]; exact V
  · rw [if_neg (show ¬ Z.tk.k = 103 from e)] at hQ
    exact r_115 hn hB h hI hQ
theorem r_52 {Z : yZ} (hn : n ≤ 1600) (hB : ∀ j, j < n → B j < 256) (h : yZM B n Z IL) (hI : yZI n Z) (hQ : ∀ IL', yfw IL IL' → yZN B n (yQ2 B n Z) IL' → Q (zFx t, IL') none) : gX8_readLine xs (d + 5) Q 52 [.ref 145] [] (zFx t, IL) := by
  unfold yQ2 at hQ
  refine sX8_readLine_52 t IL (m_isWord (d := d + 4) (i := 2) (by decide) (by decide +kernel) h.2.1 hI.1.2 (fun e => kI (z1 ?_)) (fun e => kI (z0 ?_)))
  · rw [if_pos (show Z.tk.k = 102 from e)] at hQ
    rw [h.2.2.2.f2]
    refine zbb (fun f => l_fo hn hB h hI e f hQ) (fun f => r_76 hn hB h hI (fun I1 f1 V => hQ I1 f1 ?_))
    rw [yQ3_x (by omega), yrf_k (by omega)] at V
    unfold yLf
    rw [if_pos f]
    exact V
  · rw [if_neg (show ¬ Z.tk.k = 102 from e)] at hQ
    exact r_76 hn hB h hI hQ
theorem r_26 {Z : yZ} (hn : n ≤ 1600) (hB : ∀ j, j < n → B j < 256) (h : yZM B n Z IL) (hI : yZI n Z) (hQ : ∀ IL', yfw IL IL' → yZN B n (yQ1 B n Z) IL' → Q (zFx t, IL') none) : gX8_readLine xs (d + 5) Q 26 [.ref 145] [] (zFx t, IL) := by
  unfold yQ1 at hQ
  have k6 := hI.2.2.2.2.2.1.k6
  refine sX8_readLine_26 t IL (m_isWord (d := d + 4) (i := 1) (by decide) (by decide +kernel) h.2.1 hI.1.2 (fun e => kI (z1 ?_)) (fun e => kI (z0 ?_)))
  · rw [if_pos (show Z.tk.k = 101 from e)] at hQ
    unfold yLc at hQ
    refine zln (c := 6) h.2.2.2.kk rfl (by omega) (by decide) (fun f => m_readClause (d := d) hn hB h hI e f (fun I2 W2 V2 F2 => kV (l_238 hn hB V2 (fun I4 f4 V4 => hQ I4 (yfw_tr W2 (yfw_y f4)) ?_)))) (fun f => r_52 hn hB h hI (fun I1 f1 V => hQ I1 f1 ?_))
    · rw [if_neg (show ¬ 6 ≤ Z.H.k by omega)]
      have V4' : yV B n (yc5 B n Z) I4 := V4
      by_cases q : (yc5 B n Z).1 = 0
      · rw [if_pos q]
        exact yZN_ok2 V4' q (yZF_y (F2 (ysp_0 q).1) f4)
      · rw [if_neg q]
        exact yZN_at V4' q
    · rw [yQ2_x (by omega), yrf_k (by omega)] at V
      rw [if_pos f]; exact V
  · rw [if_neg (show ¬ Z.tk.k = 101 from e)] at hQ
    exact r_52 hn hB h hI hQ
theorem m_readLine {Z : yZ} (hn : n ≤ 1600) (hB : ∀ j, j < n → B j < 256) (h : yZM B n Z IL) (hI : yZI n Z) (hQ : ∀ IL', yfw IL IL' → yZN B n (yLi B n Z) IL' → Q (zFx t, IL') none) : zcall xs (d + 6) 193 (zFx t, IL) [.ref 145] Q := by
  have e1 : yLi B n Z = if Z.tk.k = 100 then yLm B n Z else yQ1 B n Z := rfl
  rw [e1] at hQ
  have n7 := hI.2.2.2.2.2.1.n7
  refine sX8_readLine t IL (m_isWord (d := d + 4) (i := 0) (by decide) (by decide +kernel) h.2.1 hI.1.2 (fun e => kI (z1 ?_)) (fun e => kI (z0 ?_)))
  · rw [if_pos (show Z.tk.k = 100 from e)] at hQ
    unfold yLm at hQ
    refine zln (c := 7) h.2.2.2.nn rfl (by omega) (by decide) (fun f => m_readMember (d := d) hn hB h hI e f (fun I2 W2 V2 F2 => kV (l_238 hn hB V2 (fun I4 f4 V4 => hQ I4 (yfw_tr W2 (yfw_y f4)) ?_)))) (fun f => r_26 hn hB h hI (fun I1 f1 V => hQ I1 f1 ?_))
    · rw [if_neg (show ¬ 7 ≤ Z.H.n by omega)]
      have V4' : yV B n (ym8 B n Z) I4 := V4
      by_cases q : (ym8 B n Z).1 = 0
      · rw [if_pos q]
        exact yZN_ok2 V4' q (yZF_y (F2 (ysp_0 q).1) f4)
      · rw [if_neg q]
        exact yZN_at V4' q
    · rw [yQ1_x (by omega), yrf_k (by omega)] at V
      rw [if_pos f]; exact V
  · rw [if_neg (show ¬ Z.tk.k = 100 from e)] at hQ
    exact r_26 hn hB h hI hQ
theorem l_all {IL0 : zIL} (hn : n ≤ 1600) (hB : ∀ j, j < n → B j < 256) : ∀ (k : Nat) (IL : zIL) (Z : yZ), n < Z.tk.s + k → yZM B n Z IL → yZI n Z → yfw IL0 IL → (∀ IL', yfw IL0 IL' → yZN B n (yTl B n k Z) IL' → Q (zFx t, IL') none) → gX8_readAll xs (d + 6) Q 98 [.ref 145] [] (zFx t, IL) := by
  intro k
  induction k with
  | zero =>
    intro IL Z hk hZ hI fr hQ
    have := hI.1.1.1
    have := hI.1.1.2.1
    omega
  | succ k ih =>
    intro IL Z hk hZ hI fr hQ
    have sr := ysrt_1 hI.1.2.2.2.2.2
    unfold yTl at hQ
    refine sX8_readAll_98 t IL (zdec (fun _ => zkn (c := 0) hZ.2.1.1 rfl (by omega) (by decide) (fun e => ?_) (fun e => ?_)) (fun z => absurd hZ.2.2.1 z))
    · have k1 := sr.2.2.2.2.mp e
      rw [if_pos k1] at hQ
      exact hQ IL fr ⟨fun _ => hZ, fun z => absurd rfl z⟩
    · have k1 : ¬ Z.tk.k = 1 := fun q => e (sr.2.2.2.2.mpr q)
      rw [if_neg k1] at hQ
      have li := yLi_I hn hB hI k1
      refine m_readLine (d := d) hn hB hZ hI (fun I1 f1 P1 => kV ?_)
      generalize yLi B n Z = r at li P1 hQ
      by_cases z0 : r.1 = 0
      · rw [if_pos z0] at hQ
        have l2 := li.2.2 z0
        exact ih I1 r.2 (by omega) (P1.1 z0) l2.1 (yfw_tr fr f1) hQ
      · rw [if_neg z0] at hQ
        have P := P1.2 z0
        have ne : I1.1 145 2 ≠ 0 := by rw [P.1]; exact nI_ne z0 (by have := li.2.1; omega)
        exact sX8_readAll_98 t I1 (zdec (fun z => absurd z ne) (fun _ => hQ I1 (yfw_tr fr f1) P1))
end READ2
