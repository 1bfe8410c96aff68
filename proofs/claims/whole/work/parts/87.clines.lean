/-! the class reads lines -/
/-- frame of a line -/
def yfL (u : Bool) (A B : zIL) : Prop := (∀ c j, ¬ (c = 1 ∧ (j = 1 ∨ j = 2 ∨ (6 ≤ j ∧ j ≤ 10))) → ¬ (zH u ≤ c ∧ c ≤ zH u + 7) → B.1 c j = A.1 c j) ∧ (∀ c j, ¬ (c = 1 ∧ j = 11) → c ≠ 3 → c ≠ 4 → B.2 c j = A.2 c j)
theorem yfL_rf {u : Bool} {A : zIL} : yfL u A A := ⟨fun _ _ _ _ => rfl, fun _ _ _ _ _ => rfl⟩
theorem yfL_tr {u : Bool} {A B C : zIL} (h1 : yfL u A B) (h2 : yfL u B C) : yfL u A C := ⟨fun c j a b => (h2.1 c j a b).trans (h1.1 c j a b), fun c j a b e => (h2.2 c j a b e).trans (h1.2 c j a b e)⟩
theorem yfL_k {u : Bool} {A B : zIL} (h : yfk A B) : yfL u A B := ⟨fun c j a _ => h.1 c j (by omega), fun c j a _ _ => h.2 c j a⟩
theorem ytp_L {u : Bool} {n : Nat} {B : Nat → Nat} {A C : zIL} (h : ytp n B A) (f : yfL u A C) : ytp n B C := by
  have := zH_ge u
  exact ⟨by rw [f.1 1 0 (by omega) (by omega)]; exact h.1, fun j hj => by rw [f.1 2 j (by omega) (by omega)]; exact h.2.1 j hj, fun w hw => by rw [f.2 5 w (by omega) (by decide) (by decide)]; exact h.2.2 w hw⟩
def yZC (u : Bool) (B : Nat → Nat) (n : Nat) (Z : yZ) (IL : zIL) : Prop := ytp n B IL ∧ ytC Z.tk IL ∧ IL.1 1 1 = 0 ∧ (∀ i, 2 ≤ i → i ≤ 6 → bt (IL.1 1 6) i = Z.fl i) ∧ (∀ j, j < Z.H.n → IL.2 3 j = y5 (Z.mn.getD j [])) ∧ (∀ j, j < Z.H.k → IL.2 4 j = y5 (Z.cn.getD j [])) ∧ yCH u Z.H IL
def yZI (n : Nat) (Z : yZ) : Prop := ytkO n Z.tk ∧ Z.mn.length = Z.H.n ∧ Z.cn.length = Z.H.k ∧ (∀ w, w ∈ Z.mn → ywd1 w) ∧ (∀ w, w ∈ Z.cn → ywd1 w) ∧ yOK Z.H ∧ (Z.fl 2 = false → Z.H.ss = [] ∧ Z.H.units = 0) ∧ (Z.fl 2 = true → Z.H.ss ≠ [])
def yZP (u : Bool) (B : Nat → Nat) (n : Nat) (r : Nat × yZ) (IL : zIL) : Prop := (r.1 = 0 → yZC u B n r.2 IL) ∧ (r.1 ≠ 0 → IL.1 1 1 = nI r.1 ∧ IL.1 1 2 = nI r.2.tk.s)
theorem ygw_l : ∀ (W : List (List Nat)) (x : List Nat), (W ++ [x]).getD W.length [] = x
  | [], _ => rfl
  | _ :: W, x => ygw_l W x
theorem ygw_a : ∀ (W : List (List Nat)) (x : List Nat) (j : Nat), j < W.length → (W ++ [x]).getD j [] = W.getD j []
  | [], _, j, h => absurd h (Nat.not_lt_zero j)
  | _ :: _, _, 0, _ => rfl
  | _ :: W, x, j + 1, h => ygw_a W x j (Nat.lt_of_succ_lt_succ h)
theorem yZC_mk {u : Bool} {B : Nat → Nat} {n : Nat} {a : ytkT} {m c : List (List Nat)} {f : Nat → Bool} {H : yH} {IL : zIL} (h1 : ytp n B IL) (h2 : ytC a IL) (h3 : IL.1 1 1 = 0) (h4 : ∀ i, 2 ≤ i → i ≤ 6 → bt (IL.1 1 6) i = f i) (h5 : ∀ j, j < H.n → IL.2 3 j = y5 (m.getD j [])) (h6 : ∀ j, j < H.k → IL.2 4 j = y5 (c.getD j [])) (h7 : yCH u H IL) : yZC u B n (yZ.mk a m c f H) IL := ⟨h1, h2, h3, h4, h5, h6, h7⟩
theorem ytp_g {u : Bool} {n : Nat} {B : Nat → Nat} {A C : zIL} (h : ytp n B A) (g1 : ∀ c j, ¬ (zH u ≤ c ∧ c ≤ zH u + 7) → C.1 c j = A.1 c j) (g2 : C.2 = A.2) : ytp n B C := by
  have := zH_ge u
  exact ⟨by rw [g1 1 0 (by omega)]; exact h.1, fun j hj => by rw [g1 2 j (by omega)]; exact h.2.1 j hj, fun w hw => by rw [g2]; exact h.2.2 w hw⟩
theorem ytC_g {u : Bool} {a : ytkT} {A C : zIL} (h : ytC a A) (g1 : ∀ c j, ¬ (zH u ≤ c ∧ c ≤ zH u + 7) → C.1 c j = A.1 c j) (g2 : C.2 = A.2) : ytC a C := by
  have := zH_ge u
  exact ⟨by rw [g1 1 7 (by omega)]; exact h.1, by rw [g1 1 8 (by omega)]; exact h.2.1, by rw [g1 1 9 (by omega)]; exact h.2.2.1, fun z => by rw [g1 1 10 (by omega)]; exact h.2.2.2.1 z, fun z => by rw [g2]; exact h.2.2.2.2.1 z, by rw [g1 1 2 (by omega)]; exact h.2.2.2.2.2⟩
section CLINES2
variable {xs : List Int32} {d : Nat} {Q : zQ} {t u : Bool} {IL : zIL} {B : Nat → Nat} {n : Nat}
theorem yCH_k {H : yH} {A C : zIL} (h : yCH u H A) (f : ∀ c j, c ≠ 1 → C.1 c j = A.1 c j) : yCH u H C := by
  have := zH_ge u
  exact h.fr (fun i _ _ _ => funext (fun j => f _ j (by omega)))
theorem c_addM {H : yH} {o : Bool} {x1 mi vo : Int32} (hx : x1 = if o then 1 else 0) (h : yCH u H IL) (hn7 : H.n < 7) (hQ : ∀ IL', (∀ c j, ¬ (zH u ≤ c ∧ c ≤ zH u + 7) → IL'.1 c j = IL.1 c j) → IL'.2 = IL.2 → yCH u (yHm H o mi vo) IL' → Q (zFx t, IL') none) : zcall xs (d + 1) 43 (zFx t, IL) [.ref (zH u), .int x1, .int mi, .int vo] Q := by
  have e0 := h.mem
  have key : ∀ v, v = (if o then H.out ||| (1 <<< (nI H.n &&& 31)) else H.out) → zix ((zwi IL (zH u) 1 v).1 (zH u) 0) 7 (zix ((zwi (zwi IL (zH u) 1 v) (zH u + 1) (Int32.toNatClampNeg ((zwi IL (zH u) 1 v).1 (zH u) 0)) mi).1 (zH u) 0) 7 (Q (zFx t, (zwi (zwi (zwi (zwi IL (zH u) 1 v) (zH u + 1) (Int32.toNatClampNeg ((zwi IL (zH u) 1 v).1 (zH u) 0)) mi) (zH u + 2) (Int32.toNatClampNeg ((zwi (zwi IL (zH u) 1 v) (zH u + 1) (Int32.toNatClampNeg ((zwi IL (zH u) 1 v).1 (zH u) 0)) mi).1 (zH u) 0)) vo) (zH u) 0 (((zwi (zwi (zwi IL (zH u) 1 v) (zH u + 1) (Int32.toNatClampNeg ((zwi IL (zH u) 1 v).1 (zH u) 0)) mi) (zH u + 2) (Int32.toNatClampNeg ((zwi (zwi IL (zH u) 1 v) (zH u + 1) (Int32.toNatClampNeg ((zwi IL (zH u) 1 v).1 (zH u) 0)) mi).1 (zH u) 0)) vo).1 (zH u) 0) + 1))) none)) := fun v hv => by
    have e1 : (zwi IL (zH u) 1 v).1 (zH u) 0 = nI H.n := by rw [zwi_at, if_neg (by decide)]; exact e0
    rw [e1, ycl (by omega)]
    have e2 : (zwi (zwi IL (zH u) 1 v) (zH u + 1) H.n mi).1 (zH u) 0 = nI H.n := by rw [zwi_ne (by omega)]; exact e1
    rw [e2, ycl (by omega)]
    have e3 : (zwi (zwi (zwi IL (zH u) 1 v) (zH u + 1) H.n mi) (zH u + 2) H.n vo).1 (zH u) 0 = nI H.n := by rw [zwi_ne (by omega)]; exact e2
    rw [e3, nI_1]
    refine zix_n hn7 (by decide) (zix_n hn7 (by decide) (hQ _ (fun c j z => ?_) rfl ?_))
    · rw [zwi_ne (by omega), zwi_ne (by omega), zwi_ne (by omega), zwi_ne (by omega)]
    · have a0 : ∀ j, (zwi (zwi (zwi (zwi IL (zH u) 1 v) (zH u + 1) H.n mi) (zH u + 2) H.n vo) (zH u) 0 (nI (H.n + 1))).1 (zH u) j = if j = 0 then nI (H.n + 1) else if j = 1 then v else IL.1 (zH u) j := fun j => by
        rw [zwi_at]
        by_cases ej : j = 0
        · rw [if_pos ej, if_pos ej]
        · rw [if_neg ej, if_neg ej, zwi_ne (by omega), zwi_ne (by omega), zwi_at]
      have a1 : ∀ j, (zwi (zwi (zwi (zwi IL (zH u) 1 v) (zH u + 1) H.n mi) (zH u + 2) H.n vo) (zH u) 0 (nI (H.n + 1))).1 (zH u + 1) j = if j = H.n then mi else IL.1 (zH u + 1) j := fun j => by
        rw [zwi_ne (by omega), zwi_ne (by omega), zwi_at, zwi_ne (by omega)]
      have a2 : ∀ j, (zwi (zwi (zwi (zwi IL (zH u) 1 v) (zH u + 1) H.n mi) (zH u + 2) H.n vo) (zH u) 0 (nI (H.n + 1))).1 (zH u + 2) j = if j = H.n then vo else IL.1 (zH u + 2) j := fun j => by
        rw [zwi_ne (by omega), zwi_at, zwi_ne (by omega), zwi_ne (by omega)]
      have a3 : ∀ i, 3 ≤ i → ∀ j, (zwi (zwi (zwi (zwi IL (zH u) 1 v) (zH u + 1) H.n mi) (zH u + 2) H.n vo) (zH u) 0 (nI (H.n + 1))).1 (zH u + i) j = IL.1 (zH u + i) j := fun i hi j => by
        rw [zwi_ne (by omega), zwi_ne (by omega), zwi_ne (by omega), zwi_ne (by omega)]
      generalize zwi (zwi (zwi (zwi IL (zH u) 1 v) (zH u + 1) H.n mi) (zH u + 2) H.n vo) (zH u) 0 (nI (H.n + 1)) = J at a0 a1 a2 a3 ⊢
      refine yCH.mk ?_ ?_ ?_ ?_ ?_ ?_ ?_ ?_ ?_ ?_ ?_ ?_ ?_
      · rw [a0, if_pos rfl]; rfl
      · rw [a0, if_neg (by decide), if_pos rfl]; exact hv
      · rw [a0, if_neg (by decide), if_neg (by decide)]; exact h.cla
      · rw [a0, if_neg (by decide), if_neg (by decide)]; exact h.cock
      · rw [a0, if_neg (by decide), if_neg (by decide)]; exact h.quota
      · rw [a0, if_neg (by decide), if_neg (by decide)]; exact h.puns
      · rw [a0, if_neg (by decide), if_neg (by decide)]; exact h.draw
      · intro j hj
        have hj' : j < H.n + 1 := hj
        rw [a1]
        show _ = if j = H.n then mi else H.mi j
        by_cases e : j = H.n
        · rw [if_pos e, if_pos e]
        · rw [if_neg e, if_neg e]; exact h.mi j (by omega)
      · intro j hj
        have hj' : j < H.n + 1 := hj
        rw [a2]
        show _ = if j = H.n then vo else H.vo j
        by_cases e : j = H.n
        · rw [if_pos e, if_pos e]
        · rw [if_neg e, if_neg e]; exact h.vo j (by omega)
      · intro j hj; rw [a3 3 (by decide)]; exact h.sh j hj
      · rw [a3 4 (by decide)]; exact h.len
      · rw [a3 4 (by decide)]; exact h.units
      · intro j hj; rw [a3 6 (by decide)]; exact h.ss j hj
  refine sX4_addMember t u x1 mi vo IL ?_
  rw [e0, h.out, hx]
  refine zd_t (n := 7) rfl hn7 (by decide) (zbb (fun e => key _ ?_) (fun e => key _ ?_))
  · rw [e, if_neg (by decide), Int32.or_zero]
  · rw [e, if_pos rfl]
theorem c_addC {H : yH} {sh : Int32} (h : yCH u H IL) (hk6 : H.k < 6) (hQ : ∀ IL', (∀ c j, ¬ (zH u ≤ c ∧ c ≤ zH u + 7) → IL'.1 c j = IL.1 c j) → IL'.2 = IL.2 → yCH u (yHc H sh) IL' → Q (zFx t, IL') none) : zcall xs (d + 1) 44 (zFx t, IL) [.ref (zH u), .int sh] Q := by
  have e0 := h.cla
  refine sX4_addClause t u sh IL ?_
  rw [e0, ycl (by omega)]
  have e1 : (zwi IL (zH u + 3) H.k sh).1 (zH u) 4 = nI H.k := by rw [zwi_ne (by omega)]; exact e0
  rw [e1, nI_1]
  refine zd_t (n := 6) rfl hk6 (by decide) (zix_n hk6 (by decide) (hQ _ (fun c j z => ?_) rfl ?_))
  · rw [zwi_ne (by omega), zwi_ne (by omega)]
  · have a0 : ∀ j, (zwi (zwi IL (zH u + 3) H.k sh) (zH u) 4 (nI (H.k + 1))).1 (zH u) j = if j = 4 then nI (H.k + 1) else IL.1 (zH u) j := fun j => by
      rw [zwi_at, zwi_ne (by omega)]
    have a3 : ∀ j, (zwi (zwi IL (zH u + 3) H.k sh) (zH u) 4 (nI (H.k + 1))).1 (zH u + 3) j = if j = H.k then sh else IL.1 (zH u + 3) j := fun j => by
      rw [zwi_ne (by omega), zwi_at]
    have a2 : ∀ i, i ≠ 3 → i ≠ 0 → ∀ j, (zwi (zwi IL (zH u + 3) H.k sh) (zH u) 4 (nI (H.k + 1))).1 (zH u + i) j = IL.1 (zH u + i) j := fun i hi h0 j => by
      rw [zwi_ne (by omega), zwi_ne (by omega)]
    generalize zwi (zwi IL (zH u + 3) H.k sh) (zH u) 4 (nI (H.k + 1)) = J at a0 a2 a3 ⊢
    refine yCH.mk ?_ ?_ ?_ ?_ ?_ ?_ ?_ ?_ ?_ ?_ ?_ ?_ ?_
    · rw [a0, if_neg (by decide)]; exact h.mem
    · rw [a0, if_neg (by decide)]; exact h.out
    · rw [a0, if_pos rfl]; rfl
    · rw [a0, if_neg (by decide)]; exact h.cock
    · rw [a0, if_neg (by decide)]; exact h.quota
    · rw [a0, if_neg (by decide)]; exact h.puns
    · rw [a0, if_neg (by decide)]; exact h.draw
    · intro j hj; rw [a2 1 (by decide) (by decide)]; exact h.mi j hj
    · intro j hj; rw [a2 2 (by decide) (by decide)]; exact h.vo j hj
    · intro j hj
      have hj' : j < H.k + 1 := hj
      rw [a3]
      show _ = if j = H.k then sh else H.sh j
      by_cases e : j = H.k
      · rw [if_pos e, if_pos e]
      · rw [if_neg e, if_neg e]; exact h.sh j (by omega)
    · rw [a2 4 (by decide) (by decide)]; exact h.len
    · rw [a2 4 (by decide) (by decide)]; exact h.units
    · intro j hj; rw [a2 6 (by decide) (by decide)]; exact h.ss j hj
/-- behind "in" or "out" -/
theorem c_mtail {Z : yZ} {o : Bool} {x1 : Int32} {I3 : zIL} (hn : n ≤ 1600) (hB : ∀ j, j < n → B j < 256) (hx : x1 = if o then 1 else 0) (hZ : yZC u B n Z IL) (hI : yZI n Z) (hn7 : Z.H.n < 7) (ho : (ym2 B n Z).1 = 0 → o = decide ((ym2 B n Z).2.k = 108)) (hS : yS B n (ym3 B n Z) I3) (f1 : ∀ c j, ¬ (c = 1 ∧ (j = 1 ∨ j = 2 ∨ (7 ≤ j ∧ j ≤ 10))) → I3.1 c j = IL.1 c j) (f2 : ∀ c j, ¬ (c = 1 ∧ j = 11) → ¬ (c = 3 ∧ j = Z.H.n) → I3.2 c j = IL.2 c j) (f3 : (ym2 B n Z).1 = 0 → I3.2 3 Z.H.n = y5 (ynt B n Z.tk).w) (hQ : ∀ IL', yfL u IL IL' → yZP u B n (yLm B n Z) IL' → Q (zFx t, IL') none) : zcall xs (d + 6) 68 (zFx t, I3) [.ref 1, .int 113] (zkV (zFx t) fun IL4 => zcall xs (d + 6) 69 (zFx t, IL4) [.ref 1, .int 0, .int 9] (zkI (zFx t) fun IL5 y5 => zcall xs (d + 6) 68 (zFx t, IL5) [.ref 1, .int 114] (zkV (zFx t) fun IL6 => zcall xs (d + 6) 69 (zFx t, IL6) [.ref 1, .int 0, .int 9] (zkI (zFx t) fun IL7 y7 => zcall xs (d + 6) 68 (zFx t, IL7) [.ref 1, .int 59] (zkV (zFx t) fun IL8 => zif2 (decide (IL8.1 1 1 = 0)) (zcall xs (d + 6) 43 (zFx t, IL8) [.ref (zH u), .int x1, .int y5, .int y7] (zkV (zFx t) fun IL9 => Q (zFx t, IL9) none)) (Q (zFx t, IL8) none)))))) := by
  have g := zH_ge u
  refine c_takeS (c := 113) hn hB rfl (by decide) hS (fun I4 k4 S4 => kV ?_)
  refine c_takeNS (lo := 0) (hi := 9) hn hB rfl rfl (by decide) (by decide) S4 (fun I5 v5 k5 S5 e5 => kI ?_)
  refine c_takeS (c := 114) hn hB rfl (by decide) S5 (fun I6 k6 S6 => kV ?_)
  refine c_takeNS (lo := 0) (hi := 9) hn hB rfl rfl (by decide) (by decide) S6 (fun I7 v7 k7 S7 e7 => kI ?_)
  refine c_takeS (c := 59) hn hB rfl (by decide) S7 (fun I8 k8 S8 => kV ?_)
  have S8' : yS B n (ym8 B n Z) I8 := S8
  have kk : yfk I3 I8 := yfk_tr k4 (yfk_tr k5 (yfk_tr k6 (yfk_tr k7 k8)))
  have fr : yfL u IL I8 := ⟨fun c j a b => by rw [kk.1 c j (by omega)]; exact f1 c j (by omega), fun c j a b _ => by rw [kk.2 c j a]; exact f2 c j a (by omega)⟩
  unfold yLm at hQ
  rw [if_neg (by omega)] at hQ
  by_cases h0 : (ym8 B n Z).1 = 0
  · rw [if_pos h0] at hQ
    obtain ⟨a7, b7, c7⟩ := ysp_0 (r := ym7 B n Z) h0
    obtain ⟨a6, b6, c6⟩ := ysp_0 (r := ym6 B n Z) a7
    obtain ⟨a5, b5, c5⟩ := ysp_0 (r := ym5 B n Z) a6
    obtain ⟨a4, b4, c4⟩ := ysp_0 (r := ym4 B n Z) a5
    obtain ⟨a3, b3, c3⟩ := ysp_0 (r := ym3 B n Z) a4
    obtain ⟨a2, b2, c2⟩ := ysp_0 (r := ym2 B n Z) a3
    obtain ⟨tk8, z8⟩ := S8'.2.2.2.1 h0
    have e5' : v5 = nI (ym4 B n Z).2.n := e5 a5
    have e7' : v7 = nI (ym6 B n Z).2.n := e7 a7
    have CH8 : yCH u Z.H I8 := yCH_k hZ.2.2.2.2.2.2 (fun c j z => by rw [kk.1 c j (by omega)]; exact f1 c j (by omega))
    refine zdec (fun _ => c_addM (d := d + 5) hx CH8 hn7 (fun I9 g1 g2 CH9 => kV (hQ I9 ⟨fun c j a b => by rw [g1 c j b]; exact fr.1 c j a b, fun c j a b e => by rw [g2]; exact fr.2 c j a b e⟩ ⟨fun _ => ?_, fun z => absurd rfl z⟩))) (fun z => absurd z8 z)
    rw [e5', e7', ho a2] at CH9
    have l3 : ∀ j, I9.2 3 j = I3.2 3 j := fun j => by rw [g2]; exact kk.2 3 j (by omega)
    have l4 : ∀ j, I9.2 4 j = IL.2 4 j := fun j => by rw [g2, kk.2 4 j (by omega)]; exact f2 4 j (by omega) (by omega)
    refine yZC_mk (ytp_g (u := u) S8'.1 g1 g2) (ytC_g (u := u) tk8 g1 g2) (by rw [g1 1 1 (by omega)]; exact z8) (fun i h2 h6 => ?_) (fun j hj => ?_) (fun j hj => ?_) CH9
    · rw [g1 1 6 (by omega), kk.1 1 6 (by omega), f1 1 6 (by omega)]
      exact hZ.2.2.2.1 i h2 h6
    · have hj' : j < Z.H.n + 1 := hj
      show _ = y5 ((Z.mn ++ [(ynt B n Z.tk).w]).getD j [])
      rw [l3]
      by_cases e : j = Z.H.n
      · subst e
        rw [← hI.2.1, ygw_l, hI.2.1]
        exact f3 a2
      · rw [ygw_a _ _ _ (by rw [hI.2.1]; omega), f2 3 j (by omega) (by omega)]
        exact hZ.2.2.2.2.1 j (by omega)
    · rw [l4]
      exact hZ.2.2.2.2.2.1 j hj
  · rw [if_neg h0] at hQ
    refine zdec (fun z => absurd z (yS_ne S8' h0)) (fun _ => hQ I8 fr ⟨fun z => absurd z h0, fun _ => S8'.2.2.2.2 h0⟩)
theorem c_memberLine {Z : yZ} (hn : n ≤ 1600) (hB : ∀ j, j < n → B j < 256) (hZ : yZC u B n Z IL) (hI : yZI n Z) (hk : Z.tk.k = 100) (hQ : ∀ IL', yfL u IL IL' → yZP u B n (yLm B n Z) IL' → Q (zFx t, IL') none) : zcall xs (d + 7) 57 (zFx t, IL) [.ref 1, .ref (zH u)] Q := by
  have g := zH_ge u
  have e0 := hZ.2.2.2.2.2.2.mem
  refine sX5_memberLine t u IL ?_
  rw [e0]
  rcases Nat.lt_or_ge Z.H.n 7 with q | q
  · refine zd_t (n := 7) rfl q (by decide) (c_advS (d := d + 1) hn hB hZ.1 hI.1 hZ.2.1.2.2.1 hZ.2.1.2.2.2.2.2 hZ.2.2.1 (fun I1 k1 S1 => kV ?_))
    rw [k1.1 (zH u) 0 (by omega), e0]
    refine c_takeN3 (d := d) (L := Z.mn) hn hB q hI.2.1 hI.2.2.2.1 (fun j hj => by rw [k1.2 3 j (by omega)]; exact hZ.2.2.2.2.1 j hj) S1 rfl (fun I2 f1 f2 S2 f3 => kV ?_)
    have S2' : yS B n (ym2 B n Z) I2 := S2
    have f3' : (ym2 B n Z).1 = 0 → I2.2 3 Z.H.n = y5 (ynt B n Z.tk).w := f3
    have F1 : ∀ c j, ¬ (c = 1 ∧ (j = 1 ∨ j = 2 ∨ (7 ≤ j ∧ j ≤ 10))) → I2.1 c j = IL.1 c j := fun c j z => (f1 c j z).trans (k1.1 c j z)
    have F2 : ∀ c j, ¬ (c = 1 ∧ j = 11) → ¬ (c = 3 ∧ j = Z.H.n) → I2.2 c j = IL.2 c j := fun c j z z2 => (f2 c j z z2).trans (k1.2 c j z)
    have A : ((ym2 B n Z).1 = 0 → (ym2 B n Z).2.k = 108) → ysp B n (yck 108) (ym2 B n Z) = ym3 B n Z := fun h => by
      unfold ym3 ysp
      by_cases h0 : (ym2 B n Z).1 = 0
      · rw [if_pos h0, if_pos h0]
        unfold yck ycki
        rw [if_pos (h h0), if_pos (Or.inr (h h0))]
      · rw [if_neg h0, if_neg h0]
    have A2 : ((ym2 B n Z).1 = 0 → (ym2 B n Z).2.k ≠ 108) → ysp B n (yck 107) (ym2 B n Z) = ym3 B n Z := fun h => by
      unfold ym3 ysp
      by_cases h0 : (ym2 B n Z).1 = 0
      · rw [if_pos h0, if_pos h0]
        unfold yck ycki
        by_cases h7 : (ym2 B n Z).2.k = 107
        · rw [if_pos h7, if_pos (Or.inl h7)]
        · rw [if_neg h7, if_neg (show ¬ ((ym2 B n Z).2.k = 107 ∨ (ym2 B n Z).2.k = 108) from fun w => w.elim h7 (h h0))]
      · rw [if_neg h0, if_neg h0]
    have br1 : ((ym2 B n Z).1 = 0 → (ym2 B n Z).2.k = 108) → zcall xs (d + 6) 68 (zFx t, I2) [.ref 1, .int 108] (zkV (zFx t) fun IL3 => zcall xs (d + 6) 68 (zFx t, IL3) [.ref 1, .int 113] (zkV (zFx t) fun IL4 => zcall xs (d + 6) 69 (zFx t, IL4) [.ref 1, .int 0, .int 9] (zkI (zFx t) fun IL5 y5 => zcall xs (d + 6) 68 (zFx t, IL5) [.ref 1, .int 114] (zkV (zFx t) fun IL6 => zcall xs (d + 6) 69 (zFx t, IL6) [.ref 1, .int 0, .int 9] (zkI (zFx t) fun IL7 y7 => zcall xs (d + 6) 68 (zFx t, IL7) [.ref 1, .int 59] (zkV (zFx t) fun IL8 => zif2 (decide (IL8.1 1 1 = 0)) (zcall xs (d + 6) 43 (zFx t, IL8) [.ref (zH u), .int 1, .int y5, .int y7] (zkV (zFx t) fun IL9 => Q (zFx t, IL9) none)) (Q (zFx t, IL8) none))))))) := fun h => by
      refine c_takeS (d := d) (c := 108) hn hB rfl (by decide) S2' (fun I3 k3 S3 => kV ?_)
      rw [A h] at S3
      exact c_mtail (o := true) hn hB rfl hZ hI q (fun z => (decide_eq_true (h z)).symm) S3 (fun c j z => (k3.1 c j z).trans (F1 c j z)) (fun c j z z2 => (k3.2 c j z).trans (F2 c j z z2)) (fun z => (k3.2 3 _ (by omega)).trans (f3' z)) hQ
    have br2 : ((ym2 B n Z).1 = 0 → (ym2 B n Z).2.k ≠ 108) → zcall xs (d + 6) 68 (zFx t, I2) [.ref 1, .int 107] (zkV (zFx t) fun IL3 => zcall xs (d + 6) 68 (zFx t, IL3) [.ref 1, .int 113] (zkV (zFx t) fun IL4 => zcall xs (d + 6) 69 (zFx t, IL4) [.ref 1, .int 0, .int 9] (zkI (zFx t) fun IL5 y5 => zcall xs (d + 6) 68 (zFx t, IL5) [.ref 1, .int 114] (zkV (zFx t) fun IL6 => zcall xs (d + 6) 69 (zFx t, IL6) [.ref 1, .int 0, .int 9] (zkI (zFx t) fun IL7 y7 => zcall xs (d + 6) 68 (zFx t, IL7) [.ref 1, .int 59] (zkV (zFx t) fun IL8 => zif2 (decide (IL8.1 1 1 = 0)) (zcall xs (d + 6) 43 (zFx t, IL8) [.ref (zH u), .int 0, .int y5, .int y7] (zkV (zFx t) fun IL9 => Q (zFx t, IL9) none)) (Q (zFx t, IL8) none))))))) := fun h => by
      refine c_takeS (d := d) (c := 107) hn hB rfl (by decide) S2' (fun I3 k3 S3 => kV ?_)
      rw [A2 h] at S3
      exact c_mtail (o := false) hn hB rfl hZ hI q (fun z => (decide_eq_false (h z)).symm) S3 (fun c j z => (k3.1 c j z).trans (F1 c j z)) (fun c j z z2 => (k3.2 c j z).trans (F2 c j z z2)) (fun z => (k3.2 3 _ (by omega)).trans (f3' z)) hQ
    by_cases h0 : (ym2 B n Z).1 = 0
    · obtain ⟨tk2, z2⟩ := S2'.2.2.2.1 h0
      exact zkn (c := 108) tk2.1 rfl (by have := S2'.2.1.2.2.2.2.2; omega) (by decide) (fun e => br1 (fun _ => e)) (fun e => br2 (fun _ => e))
    · exact zdec (fun _ => br1 (fun z => absurd z h0)) (fun _ => br2 (fun z => absurd z h0))
  · unfold yLm at hQ
    rw [if_pos q] at hQ
    refine zd_f (n := 7) rfl q (by have := hI.2.2.2.2.2.1.n7; omega) (c_failS (d := d + 5) (c := 2) rfl (by decide) (by decide) hZ.1 hI.1 hZ.2.1 hZ.2.2.1 (fun I1 k1 S1 => kV (hQ I1 (yfL_k k1) ⟨fun z => absurd (show (2 : Nat) = 0 from z) (by decide), fun _ => S1.2.2.2.2 (show (2 : Nat) ≠ 0 by decide)⟩)))
theorem c_clauseLine {Z : yZ} (hn : n ≤ 1600) (hB : ∀ j, j < n → B j < 256) (hZ : yZC u B n Z IL) (hI : yZI n Z) (hk : Z.tk.k = 101) (hQ : ∀ IL', yfL u IL IL' → yZP u B n (yLc B n Z) IL' → Q (zFx t, IL') none) : zcall xs (d + 7) 58 (zFx t, IL) [.ref 1, .ref (zH u)] Q := by
  have g := zH_ge u
  have e0 := hZ.2.2.2.2.2.2.cla
  refine sX5_clauseLine t u IL ?_
  rw [e0]
  unfold yLc at hQ
  rcases Nat.lt_or_ge Z.H.k 6 with q | q
  · rw [if_neg (by omega)] at hQ
    refine zd_t (n := 6) rfl q (by decide) (c_advS (d := d + 1) hn hB hZ.1 hI.1 hZ.2.1.2.2.1 hZ.2.1.2.2.2.2.2 hZ.2.2.1 (fun I1 k1 S1 => kV ?_))
    rw [k1.1 (zH u) 4 (by omega), e0]
    refine c_takeN4 (d := d) (L := Z.cn) hn hB q hI.2.2.1 hI.2.2.2.2.1 (fun j hj => by rw [k1.2 4 j (by omega)]; exact hZ.2.2.2.2.2.1 j hj) S1 rfl (fun I2 f1 f2 S2 f3 => kV ?_)
    refine c_takeS (d := d) (c := 112) hn hB rfl (by decide) S2 (fun I3 k3 S3 => kV ?_)
    refine c_takeNS (d := d) (lo := 0) (hi := 20) hn hB rfl rfl (by decide) (by decide) S3 (fun I4 v4 k4 S4 e4 => kI ?_)
    refine c_takeS (d := d) (c := 59) hn hB rfl (by decide) S4 (fun I5 k5 S5 => kV ?_)
    have S5' : yS B n (yc5 B n Z) I5 := S5
    have kk : yfk I2 I5 := yfk_tr k3 (yfk_tr k4 k5)
    have F1 : ∀ c j, ¬ (c = 1 ∧ (j = 1 ∨ j = 2 ∨ (7 ≤ j ∧ j ≤ 10))) → I2.1 c j = IL.1 c j := fun c j z => (f1 c j z).trans (k1.1 c j z)
    have F2 : ∀ c j, ¬ (c = 1 ∧ j = 11) → ¬ (c = 4 ∧ j = Z.H.k) → I2.2 c j = IL.2 c j := fun c j z z2 => (f2 c j z z2).trans (k1.2 c j z)
    have fr : yfL u IL I5 := ⟨fun c j a b => by rw [kk.1 c j (by omega)]; exact F1 c j (by omega), fun c j a b _ => by rw [kk.2 c j a]; exact F2 c j a (by omega)⟩
    by_cases h0 : (yc5 B n Z).1 = 0
    · rw [if_pos h0] at hQ
      obtain ⟨a4, b4, c4⟩ := ysp_0 (r := yc4 B n Z) h0
      obtain ⟨a3, b3, c3⟩ := ysp_0 (r := yc3 B n Z) a4
      obtain ⟨a2, b2, c2⟩ := ysp_0 (r := yc2 B n Z) a3
      obtain ⟨tk8, z8⟩ := S5'.2.2.2.1 h0
      have e4' : v4 = nI (yc3 B n Z).2.n := e4 a4
      have f3' : I2.2 4 Z.H.k = y5 (ynt B n Z.tk).w := f3 a2
      have CH8 : yCH u Z.H I5 := yCH_k hZ.2.2.2.2.2.2 (fun c j z => by rw [kk.1 c j (by omega)]; exact F1 c j (by omega))
      refine zdec (fun _ => c_addC (d := d + 5) CH8 q (fun I9 g1 g2 CH9 => kV (hQ I9 ⟨fun c j a b => by rw [g1 c j b]; exact fr.1 c j a b, fun c j a b e => by rw [g2]; exact fr.2 c j a b e⟩ ⟨fun _ => ?_, fun z => absurd rfl z⟩))) (fun z => absurd z8 z)
      rw [e4'] at CH9
      have l4 : ∀ j, I9.2 4 j = I2.2 4 j := fun j => by rw [g2]; exact kk.2 4 j (by omega)
      have l3 : ∀ j, I9.2 3 j = IL.2 3 j := fun j => by rw [g2, kk.2 3 j (by omega)]; exact F2 3 j (by omega) (by omega)
      refine yZC_mk (ytp_g (u := u) S5'.1 g1 g2) (ytC_g (u := u) tk8 g1 g2) (by rw [g1 1 1 (by omega)]; exact z8) (fun i h2 h6 => ?_) (fun j hj => ?_) (fun j hj => ?_) CH9
      · rw [g1 1 6 (by omega), kk.1 1 6 (by omega), F1 1 6 (by omega)]
        exact hZ.2.2.2.1 i h2 h6
      · rw [l3]
        exact hZ.2.2.2.2.1 j hj
      · have hj' : j < Z.H.k + 1 := hj
        show _ = y5 ((Z.cn ++ [(ynt B n Z.tk).w]).getD j [])
        rw [l4]
        by_cases e : j = Z.H.k
        · subst e
          rw [← hI.2.2.1, ygw_l, hI.2.2.1]
          exact f3'
        · rw [ygw_a _ _ _ (by rw [hI.2.2.1]; omega), F2 4 j (by omega) (by omega)]
          exact hZ.2.2.2.2.2.1 j (by omega)
    · rw [if_neg h0] at hQ
      exact zdec (fun z => absurd z (yS_ne S5' h0)) (fun _ => hQ I5 fr ⟨fun z => absurd z h0, fun _ => S5'.2.2.2.2 h0⟩)
  · rw [if_pos q] at hQ
    refine zd_f (n := 6) rfl q (by have := hI.2.2.2.2.2.1.k6; omega) (c_failS (d := d + 5) (c := 2) rfl (by decide) (by decide) hZ.1 hI.1 hZ.2.1 hZ.2.2.1 (fun I1 k1 S1 => kV (hQ I1 (yfL_k k1) ⟨fun z => absurd (show (2 : Nat) = 0 from z) (by decide), fun _ => S1.2.2.2.2 (show (2 : Nat) ≠ 0 by decide)⟩)))
end CLINES2
