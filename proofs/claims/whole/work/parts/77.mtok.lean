/-! the model reads a token -/
def ysrt (k : Nat) : Nat := if k = 1 then 0 else if k = 0 then 3 else if k = 2 then 2 else if k = 3 ∨ 100 ≤ k then 1 else k
def yfq (A B : zIL) : Prop := (∀ c j, ¬ (c = 145 ∧ (j = 4 ∨ (6 ≤ j ∧ j ≤ 8))) → B.1 c j = A.1 c j) ∧ (∀ c j, ¬ (c = 145 ∧ j = 9) → B.2 c j = A.2 c j)
theorem yfq_rf {A : zIL} : yfq A A := ⟨fun _ _ _ => rfl, fun _ _ _ => rfl⟩
theorem yfq_tr {A B C : zIL} (h1 : yfq A B) (h2 : yfq B C) : yfq A C := ⟨fun c j h => (h2.1 c j h).trans (h1.1 c j h), fun c j h => (h2.2 c j h).trans (h1.2 c j h)⟩
theorem yfq_wi {A : zIL} {j : Nat} {v : Int32} (h : j = 4 ∨ (6 ≤ j ∧ j ≤ 8)) : yfq A (zwi A 145 j v) := ⟨fun c j' hc => by
  by_cases e : c = 145
  · subst e
    rw [zwi_at, if_neg (fun q => hc ⟨rfl, by omega⟩)]
  · rw [zwi_ne e], fun _ _ _ => rfl⟩
theorem yfq_wl {A : zIL} {v : Int64} : yfq A (zwl A 145 9 v) := ⟨fun _ _ _ => rfl, fun c j hc => by
  by_cases e : c = 145
  · subst e
    show zup A.2 145 9 v 145 j = _
    rw [zup_at, if_neg (fun q => hc ⟨rfl, q⟩)]
  · show zup A.2 145 9 v c j = _
    rw [zup_ne e]⟩
def ymt (n : Nat) (B : Nat → Nat) (IL : zIL) : Prop := IL.1 145 5 = nI n ∧ (∀ j, j < n → IL.1 146 j = nI (B j))
theorem ymt_fr {n : Nat} {B : Nat → Nat} {A C : zIL} (h : ymt n B A) (f : yfq A C) : ymt n B C := ⟨by rw [f.1 145 5 (by omega)]; exact h.1, fun j hj => by rw [f.1 146 j (by omega)]; exact h.2 j hj⟩
def ytM0 (a : ytkT) (IL : zIL) : Prop := IL.1 145 6 = nI (ysrt a.k) ∧ IL.1 145 7 = nI a.s ∧ (a.k ≠ 0 → IL.1 145 4 = nI a.e) ∧ (a.k = 2 → IL.1 145 8 = nI a.n) ∧ ((a.k = 3 ∨ 100 ≤ a.k) → IL.2 145 9 = y8 a.w)
theorem y_c256 : ∀ b, b < 256 → (decide (nI b = 32) = decide (b = 32)) ∧ (decide (nI b = 10) = decide (b = 10)) ∧ ((!decide (nI b < 97) && !decide (122 < nI b)) = ylet b) ∧ ((!decide (nI b < 48) && !decide (57 < nI b)) = ydig b) := by decide +kernel
theorem y_s256 : ∀ b, b < 256 → (decide (nI b = 59) || (decide (nI b = 40) || (decide (nI b = 41) || (decide (nI b = 60) || (decide (nI b = 62) || (decide (nI b = 61) || (decide (nI b = 43) || (decide (nI b = 45) || (decide (nI b = 42) || (decide (nI b = 47) || decide (nI b = 37))))))))))) = ysig b := by decide +kernel
section MTOK
variable {xs : List Int32} {d : Nat} {Q : zQ} {t : Bool} {IL IL0 : zIL} {n : Nat} {B : Nat → Nat}
theorem c_here {p k : Nat} (hn : n ≤ 1600) (ht : ymt n B IL) (h4 : IL.1 145 4 = nI p) (hpk : p + k ≤ 3500) (h0 : n ≤ p + k → Q (zFx t, IL) (some (.int (-1)))) (h1 : p + k < n → Q (zFx t, IL) (some (.int (nI (B (p + k)))))) : zcall xs (d + 1) 157 (zFx t, IL) [.ref 145, .int (nI k)] Q := by
  refine sX8_here t _ IL ?_
  rw [h4, ht.1, nI_add]
  rcases Nat.lt_or_ge (p + k) n with q | q
  · refine zd_t rfl q (by omega) (zix_n (by omega) (by omega) ?_)
    rw [ycl (by omega), ht.2 _ q]
    exact h1 q
  · exact zd_f rfl q (by omega) (h0 q)
theorem c_mlet {b : Nat} (hb : b < 256) (h0 : ylet b = false → Q (zFx t, IL) (some (.int 0))) (h1 : ylet b = true → Q (zFx t, IL) (some (.int 1))) : zcall xs (d + 1) 158 (zFx t, IL) [.int (nI b)] Q := by
  have e := (y_c256 b hb).2.2.1
  refine sX8_isLetter t _ IL (zdec (fun z => h0 ?_) (fun z => zdec (fun w => h0 ?_) (fun w => h1 ?_)))
  · rw [← e, decide_eq_true z]; rfl
  · rw [← e, decide_eq_true w, Bool.not_true, Bool.and_false]
  · rw [← e, decide_eq_false z, decide_eq_false w]; rfl
theorem c_mlet1 (h0 : Q (zFx t, IL) (some (.int 0))) : zcall xs (d + 1) 158 (zFx t, IL) [.int (-1)] Q := sX8_isLetter t _ IL (zdec (fun _ => h0) (fun z => absurd (by decide) z))
theorem c_mdig {b : Nat} (hb : b < 256) (h0 : ydig b = false → Q (zFx t, IL) (some (.int 0))) (h1 : ydig b = true → Q (zFx t, IL) (some (.int 1))) : zcall xs (d + 1) 159 (zFx t, IL) [.int (nI b)] Q := by
  have e := (y_c256 b hb).2.2.2
  refine sX8_isDigit t _ IL (zdec (fun z => h0 ?_) (fun z => zdec (fun w => h0 ?_) (fun w => h1 ?_)))
  · rw [← e, decide_eq_true z]; rfl
  · rw [← e, decide_eq_true w, Bool.not_true, Bool.and_false]
  · rw [← e, decide_eq_false z, decide_eq_false w]; rfl
theorem c_mdig1 (h0 : Q (zFx t, IL) (some (.int 0))) : zcall xs (d + 1) 159 (zFx t, IL) [.int (-1)] Q := sX8_isDigit t _ IL (zdec (fun _ => h0) (fun z => absurd (by decide) z))
theorem c_msig {b : Nat} (hb : b < 256) (h0 : ysig b = false → Q (zFx t, IL) (some (.int 0))) (h1 : ysig b = true → Q (zFx t, IL) (some (.int 1))) : zcall xs (d + 1) 160 (zFx t, IL) [.int (nI b)] Q := by
  have e := y_s256 b hb
  have L : ∀ {p : Prop} [Decidable p] {r : Bool} {A C : Prop}, (decide p || r) = ysig b → (ysig b = true → A) → (r = ysig b → C) → zif2 (decide p) A C := fun {p} _ {r} {A C} h ha hc => zdec (fun z => ha (by rw [← h, decide_eq_true z]; rfl)) (fun z => hc (by rw [decide_eq_false z, Bool.false_or] at h; exact h))
  refine sX8_isSign t _ IL (L e h1 (fun e => L e h1 (fun e => L e h1 (fun e => L e h1 (fun e => L e h1 (fun e => L e h1 (fun e => L e h1 (fun e => L e h1 (fun e => L e h1 (fun e => L e h1 (fun e => ?_)))))))))))
  exact zdec (fun z => h1 (by rw [← e, decide_eq_true z])) (fun z => h0 (by rw [← e, decide_eq_false z]))
/-- the kind is set, and at -/
theorem l_tkend {M : zIL} {k : Nat} {v : Int32} {p : Nat} (h4 : M.1 145 4 = nI p) (hk : k ≤ 200) (h0 : k = 3 → Q (zFx t, zwi M 145 6 (nI k)) none) (h1 : k ≠ 3 → Q (zFx t, zwi (zwi M 145 6 (nI k)) 145 4 (nI p + v)) none) : zif2 (decide ((zwi M 145 6 (nI k)).1 145 6 = 3)) (Q (zFx t, zwi M 145 6 (nI k)) none) (Q (zFx t, zwi (zwi M 145 6 (nI k)) 145 4 ((zwi M 145 6 (nI k)).1 145 4 + v)) none) := by
  rw [zwi_at, if_pos rfl, zwi_at, if_neg (show ¬ (4 : Nat) = 6 by decide), h4]
  refine zdec (fun z => h0 ((nI_eq (b := 3) (by omega) (by omega)).mp z)) (fun z => h1 (fun q => z (by rw [q]; rfl)))
theorem l_tk78 {s e : Nat} {y : Int32} (hn : n ≤ 1600) (hB : ∀ j, j < n → B j < 256) (ht : ymt n B IL0) (hsn : s ≤ n) (he : e = yE ylet B n s) (hQ : ∀ IL', yfq IL0 IL' → IL'.1 145 7 = IL0.1 145 7 → (8 < e - s → IL'.1 145 6 = 3) → (¬ 8 < e - s → IL'.1 145 6 = 1 ∧ IL'.1 145 4 = nI e ∧ IL'.2 145 9 = y8 (yltr B s (e - s))) → Q (zFx t, IL') none) : ∀ (m i : Nat) (IL : zIL), s + i + m = e → yfq IL0 IL → IL.1 145 7 = IL0.1 145 7 → IL.1 145 4 = nI s → IL.2 145 9 = y8 (yltr B s (min i 8)) → gX8_token xs (d + 1) Q 78 [.ref 145, .int y, .int (nI i)] [] (zFx t, IL) := by
  intro m
  have hen : e ≤ n := by rw [he]; exact yE_le hsn
  -- behind the last letter
  have fin : ∀ (i : Nat) (IL : zIL), s + i = e → yfq IL0 IL → IL.1 145 7 = IL0.1 145 7 → IL.1 145 4 = nI s → IL.2 145 9 = y8 (yltr B s (min i 8)) → zif2 (decide (8 < nI i)) (zif2 (decide ((zwi IL 145 6 3).1 145 6 = 3)) (Q (zFx t, zwi IL 145 6 3) none) (Q (zFx t, zwi (zwi IL 145 6 3) 145 4 ((zwi IL 145 6 3).1 145 4 + nI i)) none)) (zif2 (decide ((zwi IL 145 6 1).1 145 6 = 3)) (Q (zFx t, zwi IL 145 6 1) none) (Q (zFx t, zwi (zwi IL 145 6 1) 145 4 ((zwi IL 145 6 1).1 145 4 + nI i)) none)) := fun i IL hi fr g7 g4 gw => by
    have ei : e - s = i := by omega
    have k7 : ∀ v, (zwi IL 145 6 v).1 145 7 = IL0.1 145 7 := fun v => by rw [zwi_at, if_neg (by decide)]; exact g7
    refine zdec (fun z => ?_) (fun z => ?_)
    · have z' := (nI_ltI (a := 8) (by omega) (by omega)).mp z
      refine l_tkend (k := 3) g4 (by decide) (fun _ => hQ _ (yfq_tr fr (yfq_wi (by omega))) (k7 _) (fun _ => by rw [zwi_at, if_pos rfl]; rfl) (fun q => absurd (by omega) q)) (fun q => absurd rfl q)
    · have z' : ¬ 8 < i := fun q => z ((nI_ltI (a := 8) (by omega) (by omega)).mpr q)
      refine l_tkend (k := 1) g4 (by decide) (fun q => absurd q (by decide)) (fun _ => hQ _ (yfq_tr fr (yfq_tr (yfq_wi (by omega)) (yfq_wi (by omega)))) (by rw [zwi_at, if_neg (by decide)]; exact k7 _) (fun q => absurd q (by omega)) (fun _ => ⟨by rw [zwi_at, if_neg (by decide), zwi_at, if_pos rfl]; rfl, by rw [zwi_at, if_pos rfl, nI_add, hi], ?_⟩))
      show IL.2 145 9 = _
      rw [gw, ei, Nat.min_eq_left (by omega)]
  induction m with
  | zero =>
    intro i IL hi fr g7 g4 gw
    have htI := ymt_fr ht fr
    have hse : s + i = e := by omega
    have hq : ¬ (e < n ∧ ylet (B e) = true) := by rw [he]; exact yE_q
    have f := fin i IL hse fr g7 g4 gw
    refine sX8_token_78 t _ _ IL (c_here hn htI g4 (by omega) (fun _ => kI (c_mlet1 (kI (z0 f)))) (fun q => kI ?_))
    rw [hse] at q ⊢
    exact c_mlet (hB e q) (fun _ => kI (z0 f)) (fun g => absurd ⟨q, g⟩ hq)
  | succ m ih =>
    intro i IL hi fr g7 g4 gw
    have htI := ymt_fr ht fr
    have hlt : s + i < yE ylet B n s := by rw [← he]; omega
    have hp : ylet (B (s + i)) = true := yE_p (by omega) hlt
    have hin : s + i < n := by omega
    have hb := hB (s + i) hin
    refine sX8_token_78 t _ _ IL (c_here hn htI g4 (by omega) (fun q => by omega) (fun _ => kI (c_mlet hb (fun g => absurd hp (by rw [g]; decide)) (fun _ => kI (z1 ?_)))))
    rcases Nat.lt_or_ge i 8 with q | q
    · refine zd_t (n := 8) rfl q (by omega) (c_here hn htI g4 (by omega) (fun q => by omega) (fun _ => kI ?_))
      rw [gw, nI_1, Nat.min_eq_left (by omega)]
      have eb : nI (B (s + i)) = nI (B (s + i) - 96 + 96) := by
        have : 97 ≤ B (s + i) := by
          unfold ylet at hp
          rw [Bool.and_eq_true_iff] at hp
          exact of_decide_eq_true hp.1
        rw [show B (s + i) - 96 + 96 = B (s + i) by omega]
      rw [eb, ← y8_s]
      refine ih (i + 1) _ (by omega) (yfq_tr fr yfq_wl) g7 g4 ?_
      rw [zwl_at, Nat.min_eq_left (by omega), yltr]
    · refine zd_f (n := 8) rfl q (by omega) ?_
      rw [nI_1]
      refine ih (i + 1) IL (by omega) fr g7 g4 ?_
      rw [gw, Nat.min_eq_right q, Nat.min_eq_right (by omega)]
theorem y_dec2 {a b : Nat} (h : 48 ≤ b) : 10 * nI a + nI b - 48 = nI (10 * a + (b - 48)) := by
  rw [show (10 : Int32) = nI 10 from rfl, pk_mul, nI_add, show (48 : Int32) = nI 48 from rfl, pk_sub (by omega)]
  congr 1
  omega
theorem l_tk144 {s e : Nat} {y : Int32} (hn : n ≤ 1600) (hB : ∀ j, j < n → B j < 256) (ht : ymt n B IL0) (hsn : s ≤ n) (he : e = yE ydig B n s) (hQ : ∀ IL', yfq IL0 IL' → IL'.1 145 7 = IL0.1 145 7 → ((4 < e - s ∨ (e < n ∧ ylet (B e) = true)) → IL'.1 145 6 = 3) → (¬ (4 < e - s ∨ (e < n ∧ ylet (B e) = true)) → IL'.1 145 6 = 2 ∧ IL'.1 145 4 = nI e ∧ IL'.1 145 8 = nI (ynum B s (e - s))) → Q (zFx t, IL') none) : ∀ (m i : Nat) (IL : zIL), s + i + m = e → yfq IL0 IL → IL.1 145 7 = IL0.1 145 7 → IL.1 145 4 = nI s → IL.1 145 8 = nI (ynum B s (min i 4)) → gX8_token xs (d + 1) Q 144 [.ref 145, .int y, .int (nI i)] [] (zFx t, IL) := by
  intro m
  have hen : e ≤ n := by rw [he]; exact yE_le hsn
  induction m with
  | zero =>
    intro i IL hi fr g7 g4 g8
    have htI := ymt_fr ht fr
    have hse : s + i = e := by omega
    have ei : e - s = i := by omega
    have hq : ¬ (e < n ∧ ydig (B e) = true) := by rw [he]; exact yE_q
    have k7 : ∀ v, (zwi IL 145 6 v).1 145 7 = IL0.1 145 7 := fun v => by rw [zwi_at, if_neg (by decide)]; exact g7
    have bad : (4 < e - s ∨ (e < n ∧ ylet (B e) = true)) → zif2 (decide ((zwi IL 145 6 3).1 145 6 = 3)) (Q (zFx t, zwi IL 145 6 3) none) (Q (zFx t, zwi (zwi IL 145 6 3) 145 4 ((zwi IL 145 6 3).1 145 4 + nI i)) none) := fun h =>
      l_tkend (k := 3) g4 (by decide) (fun _ => hQ _ (yfq_tr fr (yfq_wi (by omega))) (k7 _) (fun _ => by rw [zwi_at, if_pos rfl]; rfl) (fun q => absurd h q)) (fun q => absurd rfl q)
    have good : ¬ (4 < e - s ∨ (e < n ∧ ylet (B e) = true)) → zif2 (decide ((zwi IL 145 6 2).1 145 6 = 3)) (Q (zFx t, zwi IL 145 6 2) none) (Q (zFx t, zwi (zwi IL 145 6 2) 145 4 ((zwi IL 145 6 2).1 145 4 + nI i)) none) := fun h =>
      l_tkend (k := 2) g4 (by decide) (fun q => absurd q (by decide)) (fun _ => hQ _ (yfq_tr fr (yfq_tr (yfq_wi (by omega)) (yfq_wi (by omega)))) (by rw [zwi_at, if_neg (by decide)]; exact k7 _) (fun q => absurd q h) (fun _ => ⟨by rw [zwi_at, if_neg (by decide), zwi_at, if_pos rfl]; rfl, by rw [zwi_at, if_pos rfl, nI_add, hse], by
        rw [zwi_at, if_neg (by decide), zwi_at, if_neg (by decide), g8, ei, Nat.min_eq_left (by
          have : ¬ 4 < e - s := fun q => h (Or.inl q)
          omega)]⟩))
    -- behind the last digit
    have fin : zif2 (decide (4 < nI i)) (zif2 (decide ((zwi IL 145 6 3).1 145 6 = 3)) (Q (zFx t, zwi IL 145 6 3) none) (Q (zFx t, zwi (zwi IL 145 6 3) 145 4 ((zwi IL 145 6 3).1 145 4 + nI i)) none)) (zcall xs (d + 1) 157 (zFx t, IL) [.ref 145, .int (nI i)] (zkI (zFx t) fun IL3 y3 => zcall xs (d + 1) 158 (zFx t, IL3) [.int y3] (zkI (zFx t) fun IL4 y4 => zif2 (decide (y4 = 0)) (zif2 (decide ((zwi IL4 145 6 2).1 145 6 = 3)) (Q (zFx t, zwi IL4 145 6 2) none) (Q (zFx t, zwi (zwi IL4 145 6 2) 145 4 ((zwi IL4 145 6 2).1 145 4 + nI i)) none)) (zif2 (decide ((zwi IL4 145 6 3).1 145 6 = 3)) (Q (zFx t, zwi IL4 145 6 3) none) (Q (zFx t, zwi (zwi IL4 145 6 3) 145 4 ((zwi IL4 145 6 3).1 145 4 + nI i)) none))))) := by
      refine zdec (fun z => bad (Or.inl (by have := (nI_ltI (a := 4) (by omega) (by omega)).mp z; omega))) (fun z => ?_)
      have z' : ¬ 4 < e - s := fun q => z ((nI_ltI (a := 4) (by omega) (by omega)).mpr (by omega))
      refine c_here hn htI g4 (by omega) (fun q => kI (c_mlet1 (kI (z0 (good (fun w => w.elim z' (fun w => by omega))))))) (fun q => kI ?_)
      rw [hse] at q ⊢
      exact c_mlet (hB e q) (fun g => kI (z0 (good (fun w => w.elim z' (fun w => by rw [g] at w; cases w.2))))) (fun g => kI (z1 (bad (Or.inr ⟨q, g⟩))))
    refine sX8_token_144 t _ _ IL (c_here hn htI g4 (by omega) (fun _ => kI (c_mdig1 (kI (z0 fin)))) (fun q => kI ?_))
    rw [hse] at q ⊢
    exact c_mdig (hB e q) (fun _ => kI (z0 fin)) (fun g => absurd ⟨q, g⟩ hq)
  | succ m ih =>
    intro i IL hi fr g7 g4 g8
    have htI := ymt_fr ht fr
    have hlt : s + i < yE ydig B n s := by rw [← he]; omega
    have hp : ydig (B (s + i)) = true := yE_p (by omega) hlt
    have hin : s + i < n := by omega
    have hb := hB (s + i) hin
    refine sX8_token_144 t _ _ IL (c_here hn htI g4 (by omega) (fun q => by omega) (fun _ => kI (c_mdig hb (fun g => absurd hp (by rw [g]; decide)) (fun _ => kI (z1 ?_)))))
    rcases Nat.lt_or_ge i 4 with q | q
    · refine zd_t (n := 4) rfl q (by omega) (c_here hn htI g4 (by omega) (fun q => by omega) (fun _ => kI ?_))
      rw [g8, nI_1, Nat.min_eq_left (by omega), y_dec2 (ydig_48 hp)]
      refine ih (i + 1) _ (by omega) (yfq_tr fr (yfq_wi (by omega))) (by rw [zwi_at, if_neg (by decide)]; exact g7) (by rw [zwi_at, if_neg (by decide)]; exact g4) ?_
      rw [zwi_at, if_pos rfl, Nat.min_eq_left (by omega), ynum]
    · refine zd_f (n := 4) rfl q (by omega) ?_
      rw [nI_1]
      refine ih (i + 1) IL (by omega) fr g7 g4 ?_
      rw [g8, Nat.min_eq_right q, Nat.min_eq_right (by omega)]
theorem c_tok0 {p : Nat} (hn : n ≤ 1600) (hB : ∀ j, j < n → B j < 256) (ht : ymt n B IL) (hpn : p ≤ n) (h4 : IL.1 145 4 = nI p) (hQ : ∀ IL', yfq IL IL' → ytM0 (ytok B n p) IL' → Q (zFx t, IL') none) : zcall xs (d + 2) 161 (zFx t, IL) [.ref 145] Q := by
  refine sX8_token t IL ?_
  -- blanks
  have skip : ∀ (m i : Nat) (M : zIL), i + m = yE yspc B n p → p ≤ i → yfq IL M → M.1 145 4 = nI i → gX8_token xs (d + 1) Q 0 [.ref 145, .retAddr 0, .retAddr 0] [] (zFx t, M) := by
    intro m
    have hsn : yE yspc B n p ≤ n := yE_le hpn
    induction m with
    | succ m ih =>
      intro i M hi hpi fr g4
      have htM := ymt_fr ht fr
      have hlt : i < yE yspc B n p := by omega
      have hp : yspc (B i) = true := yE_p hpi hlt
      have q : i < n := by omega
      have b := y_c256 (B i) (hB i q)
      have next : gX8_token xs (d + 1) Q 0 [.ref 145, .retAddr 0, .retAddr 0] [] (zFx t, zwi M 145 4 (M.1 145 4 + 1)) := by
        rw [g4, nI_1]
        exact ih (i + 1) _ (by omega) (by omega) (yfq_tr fr (yfq_wi (by omega))) (by rw [zwi_at, if_pos rfl])
      refine sX8_token_0 t M (c_here (k := 0) hn htM g4 (by omega) (fun w => by omega) (fun _ => kI (zdec (fun _ => next) (fun z => c_here (k := 0) hn htM g4 (by omega) (fun w => by omega) (fun _ => kI (zdec (fun _ => next) (fun w => ?_)))))))
      rw [Nat.add_zero] at z w
      have e1 := b.1
      have e2 := b.2.1
      rw [decide_eq_false z] at e1
      rw [decide_eq_false w] at e2
      unfold yspc at hp
      rw [← e1, ← e2] at hp
      cases hp
    | zero =>
      intro i M hi hpi fr g4
      have es : i = yE yspc B n p := by omega
      have htM := ymt_fr ht fr
      have hq : ¬ (i < n ∧ yspc (B i) = true) := by rw [es]; exact yE_q
      unfold ytok at hQ
      rw [← es] at hQ hsn
      -- the place is set
      have f1 : yfq IL (zwi M 145 7 (nI i)) := yfq_tr fr (yfq_wi (by omega))
      have w7 : (zwi M 145 7 (nI i)).1 145 7 = nI i := by rw [zwi_at, if_pos rfl]
      have w4 : (zwi M 145 7 (nI i)).1 145 4 = nI i := by rw [zwi_at, if_neg (by decide)]; exact g4
      have f2 : yfq IL (zwi (zwl (zwi M 145 7 (nI i)) 145 9 0) 145 8 0) := yfq_tr f1 (yfq_tr yfq_wl (yfq_wi (by omega)))
      have v7 : (zwi (zwl (zwi M 145 7 (nI i)) 145 9 0) 145 8 0).1 145 7 = nI i := by rw [zwi_at, if_neg (by decide)]; exact w7
      have v4 : (zwi (zwl (zwi M 145 7 (nI i)) 145 9 0) 145 8 0).1 145 4 = nI i := by rw [zwi_at, if_neg (by decide)]; exact w4
      have v8 : (zwi (zwl (zwi M 145 7 (nI i)) 145 9 0) 145 8 0).1 145 8 = 0 := by rw [zwi_at, if_pos rfl]
      have v9 : (zwi (zwl (zwi M 145 7 (nI i)) 145 9 0) 145 8 0).2 145 9 = 0 := (show (zwl (zwi M 145 7 (nI i)) 145 9 0).2 145 9 = 0 from zwl_at)
      have ht1 := ymt_fr ht f1
      rcases Nat.lt_or_ge i n with q | q
      · have nsp : yspc (B i) = false := by
          cases e : yspc (B i)
          · rfl
          · exact absurd ⟨q, e⟩ hq
        unfold yspc at nsp
        rw [Bool.or_eq_false_iff] at nsp
        have b := y_c256 (B i) (hB i q)
        have n1 : ¬ nI (B i) = 32 := by have := b.1; rw [nsp.1] at this; exact of_decide_eq_false this
        have n2 : ¬ nI (B i) = 10 := by have := b.2.1; rw [nsp.2] at this; exact of_decide_eq_false this
        unfold ytk1 at hQ
        rw [if_pos q] at hQ
        refine sX8_token_0 t M (c_here (k := 0) hn htM g4 (by omega) (fun w => by omega) (fun _ => kI (zdec (fun z => absurd z n1) (fun _ => c_here (k := 0) hn htM g4 (by omega) (fun w => by omega) (fun _ => kI (zdec (fun z => absurd z n2) (fun _ => ?_)))))))
        rw [g4]
        refine c_here (k := 0) hn ht1 w4 (by omega) (fun w => by omega) (fun _ => kI (zdec (fun z => absurd z (nI_pos (by have := hB i q; show B (i + 0) < 2 ^ 31; rw [Nat.add_zero]; omega))) (fun _ => ?_)))
        simp only [Nat.add_zero]
        generalize zwi (zwl (zwi M 145 7 (nI i)) 145 9 0) 145 8 0 = K at f2 v7 v4 v8 v9 ⊢
        have htK := ymt_fr ht f2
        refine c_mlet (hB i q) (fun hl => kI (z0 (c_mdig (hB i q) (fun hd => kI (z0 (c_msig (hB i q) (fun hg => kI (z0 ?_)) (fun hg => kI (z1 ?_))))) (fun hd => kI (z1 ?_))))) (fun hl => kI (z1 ?_))
        · rw [hl, if_neg (by decide), hd, if_neg (by decide), hg, if_neg (by decide)] at hQ
          exact l_tkend (k := 3) v4 (by decide) (fun _ => hQ _ (yfq_tr f2 (yfq_wi (by omega))) ⟨by rw [zwi_at, if_pos rfl]; rfl, by rw [zwi_at, if_neg (by decide)]; exact v7, fun z => absurd rfl z, fun z => absurd (show (0 : Nat) = 2 from z) (by decide), fun z => absurd (show ((0 : Nat) = 3 ∨ 100 ≤ 0) from z) (by decide)⟩) (fun q => absurd rfl q)
        · rw [hl, if_neg (by decide), hd, if_neg (by decide), hg, if_pos rfl] at hQ
          have sg : ∀ b, b < 256 → ysig b = true → b ≠ 0 ∧ b ≠ 1 ∧ b ≠ 2 ∧ ¬ (b = 3 ∨ 100 ≤ b) ∧ b ≤ 200 := by decide +kernel
          obtain ⟨s0, s1, s2, s3, s4⟩ := sg (B i) (hB i q) hg
          have es : ysrt (B i) = B i := by unfold ysrt; rw [if_neg s1, if_neg s0, if_neg s2, if_neg s3]
          exact l_tkend (k := B i) v4 s4 (fun w => absurd (Or.inl w) s3) (fun _ => hQ _ (yfq_tr f2 (yfq_tr (yfq_wi (by omega)) (yfq_wi (by omega)))) ⟨by rw [zwi_at, if_neg (by decide), zwi_at, if_pos rfl]; show nI (B i) = nI (ysrt (B i)); rw [es], by rw [zwi_at, if_neg (by decide), zwi_at, if_neg (by decide)]; exact v7, fun _ => by rw [zwi_at, if_pos rfl, nI_1]; rfl, fun z => absurd z s2, fun z => absurd z s3⟩)
        · rw [hl, if_neg (by decide), hd, if_pos rfl] at hQ
          refine l_tk144 (IL0 := K) (s := i) hn hB htK hsn rfl (fun IL' f a7 a0 a1 => ?_) (yE ydig B n i - i) 0 K (by have := yE_ge (P := ydig) (B := B) (n := n) (i := i); omega) yfq_rf rfl v4 (by rw [v8]; rfl)
          by_cases g : 4 < yE ydig B n i - i ∨ (yE ydig B n i < n ∧ ylet (B (yE ydig B n i)) = true)
          · rw [if_pos g] at hQ
            exact hQ IL' (yfq_tr f2 f) ⟨a0 g, by rw [a7]; exact v7, fun z => absurd rfl z, fun z => absurd (show (0 : Nat) = 2 from z) (by decide), fun z => absurd (show ((0 : Nat) = 3 ∨ 100 ≤ 0) from z) (by decide)⟩
          · rw [if_neg g] at hQ
            exact hQ IL' (yfq_tr f2 f) ⟨(a1 g).1, by rw [a7]; exact v7, fun _ => (a1 g).2.1, fun _ => (a1 g).2.2, fun z => absurd (show ((2 : Nat) = 3 ∨ 100 ≤ 2) from z) (by decide)⟩
        · rw [hl, if_pos rfl] at hQ
          refine l_tk78 (IL0 := K) (s := i) hn hB htK hsn rfl (fun IL' f a7 a0 a1 => ?_) (yE ylet B n i - i) 0 K (by have := yE_ge (P := ylet) (B := B) (n := n) (i := i); omega) yfq_rf rfl v4 (by rw [v9]; rfl)
          by_cases g : 8 < yE ylet B n i - i
          · rw [if_pos g] at hQ
            exact hQ IL' (yfq_tr f2 f) ⟨a0 g, by rw [a7]; exact v7, fun z => absurd rfl z, fun z => absurd (show (0 : Nat) = 2 from z) (by decide), fun z => absurd (show ((0 : Nat) = 3 ∨ 100 ≤ 0) from z) (by decide)⟩
          · rw [if_neg g] at hQ
            have kk : ∀ w, yknd w = 3 ∨ 100 ≤ yknd w := fun w => by unfold yknd; split <;> omega
            have kn := kk (yltr B i (yE ylet B n i - i))
            refine hQ IL' (yfq_tr f2 f) ⟨?_, by rw [a7]; exact v7, fun _ => (a1 g).2.1, fun z => absurd z ?_, fun _ => (a1 g).2.2⟩
            · rw [(a1 g).1]
              show (1 : Int32) = nI (ysrt (yknd _))
              have : ysrt (yknd (yltr B i (yE ylet B n i - i))) = 1 := by unfold ysrt; rw [if_neg (by omega), if_neg (by omega), if_neg (by omega), if_pos kn]
              rw [this]
              rfl
            · show ¬ yknd _ = 2
              omega
      · unfold ytk1 at hQ
        rw [if_neg (by omega)] at hQ
        refine sX8_token_0 t M (c_here (k := 0) hn htM g4 (by omega) (fun _ => kI (zdec (fun z => absurd z (by decide)) (fun _ => c_here (k := 0) hn htM g4 (by omega) (fun _ => kI (zdec (fun z => absurd z (by decide)) (fun _ => ?_))) (fun w => by omega)))) (fun w => by omega))
        rw [g4]
        refine c_here (k := 0) hn ht1 w4 (by omega) (fun _ => kI (zdec (fun _ => ?_) (fun z => absurd (by decide) z))) (fun w => by omega)
        generalize zwi (zwl (zwi M 145 7 (nI i)) 145 9 0) 145 8 0 = K at f2 v7 v4 v8 v9 ⊢
        refine l_tkend (k := 0) v4 (by decide) (fun w => absurd w (by decide)) (fun _ => hQ _ (yfq_tr f2 (yfq_tr (yfq_wi (by omega)) (yfq_wi (by omega)))) ⟨by rw [zwi_at, if_neg (by decide), zwi_at, if_pos rfl]; rfl, by rw [zwi_at, if_neg (by decide), zwi_at, if_neg (by decide)]; exact v7, fun _ => by rw [zwi_at, if_pos rfl, Int32.add_zero]; rfl, fun z => absurd (show (1 : Nat) = 2 from z) (by decide), fun z => absurd (show ((1 : Nat) = 3 ∨ 100 ≤ 1) from z) (by decide)⟩)
  exact skip (yE yspc B n p - p) p IL (by have := yE_ge (P := yspc) (B := B) (n := n) (i := p); omega) (Nat.le_refl _) yfq_rf h4
/-- a token, and no place of a fault yet -/
def ytM (a : ytkT) (IL : zIL) : Prop := IL.1 145 6 = nI (ysrt a.k) ∧ IL.1 145 7 = nI a.s ∧ (a.k ≠ 0 → IL.1 145 4 = nI a.e) ∧ (a.k = 2 → IL.1 145 8 = nI a.n) ∧ ((a.k = 3 ∨ 100 ≤ a.k) → IL.2 145 9 = y8 a.w) ∧ IL.1 145 3 = -1
theorem c_token {p : Nat} (hn : n ≤ 1600) (hB : ∀ j, j < n → B j < 256) (ht : ymt n B IL) (hpn : p ≤ n) (h4 : IL.1 145 4 = nI p) (h3 : IL.1 145 3 = -1) (hQ : ∀ IL', yfq IL IL' → ytM (ytok B n p) IL' → Q (zFx t, IL') none) : zcall xs (d + 2) 161 (zFx t, IL) [.ref 145] Q :=
  c_tok0 hn hB ht hpn h4 (fun IL' f tk => hQ IL' f ⟨tk.1, tk.2.1, tk.2.2.1, tk.2.2.2.1, tk.2.2.2.2, by rw [f.1 145 3 (by omega)]; exact h3⟩)
end MTOK
