/-! the class reads a token -/
def y5 (l : List Nat) : Int64 := l.foldl (fun a x => (a <<< (Int32.toInt64 5 &&& 63)) ||| Int32.toInt64 (nI x)) 0
def y8 (l : List Nat) : Int64 := l.foldl (fun a x => (a <<< (Int32.toInt64 8 &&& 63)) ||| Int32.toInt64 (nI (x + 96))) 0
theorem y5_s (l : List Nat) (x : Nat) : y5 (l ++ [x]) = (y5 l <<< (Int32.toInt64 5 &&& 63)) ||| Int32.toInt64 (nI x) := by unfold y5; rw [List.foldl_append]; rfl
theorem y8_s (l : List Nat) (x : Nat) : y8 (l ++ [x]) = (y8 l <<< (Int32.toInt64 8 &&& 63)) ||| Int32.toInt64 (nI (x + 96)) := by unfold y8; rw [List.foldl_append]; rfl
theorem lN_b (n : Nat) {i : Nat} (hi : i < 64) : (lN n).toBitVec.getLsbD i = n.testBit i := by
  show (BitVec.ofNat 64 n).getLsbD i = _
  rw [BitVec.getLsbD_ofNat, decide_eq_true hi, Bool.true_and]
theorem y_shor {k : Nat} {s : Int64} (hs : (s.toBitVec.smod 64).toNat = k) (hk : k < 31) {a x : Nat} (hx : x < 2 ^ k) : (lN a <<< s) ||| Int32.toInt64 (nI x) = lN (2 ^ k * a + x) := by
  have hx31 : x < 2 ^ 31 := Nat.lt_trans hx (Nat.pow_lt_pow_right (by decide) hk)
  rw [nI_l hx31]
  apply Int64.toBitVec_inj.1
  apply BitVec.eq_of_getLsbD_eq
  intro i hi
  rw [Int64.toBitVec_or, BitVec.getLsbD_or, lN_b _ hi, lN_b _ hi, Nat.testBit_two_pow_mul_add _ hx, Int64.toBitVec_shiftLeft]
  show (((lN a).toBitVec <<< (s.toBitVec.smod 64).toNat).getLsbD i || _) = _
  rw [hs, BitVec.getLsbD_shiftLeft, decide_eq_true hi, Bool.true_and]
  by_cases h : i < k
  · rw [decide_eq_true h, if_pos h]; rfl
  · rw [decide_eq_false h, if_neg h, lN_b _ (by omega), Nat.testBit_lt_two_pow (Nat.lt_of_lt_of_le hx (Nat.pow_le_pow_right (n := 2) (by decide) (by omega)))]
    simp
theorem y5_e : ∀ (r : List Nat), (∀ x, x ∈ r → x < 32) → y5 r.reverse = lN (ycd 32 r)
  | [], _ => rfl
  | x :: r, h => by
    rw [List.reverse_cons, y5_s, y5_e r (fun x hx => h x (List.mem_cons_of_mem _ hx)), ycd]
    exact y_shor (k := 5) (by decide) (by decide) (h x List.mem_cons_self)
theorem y8_e : ∀ (r : List Nat), (∀ x, x ∈ r → x + 96 < 256) → y8 r.reverse = lN (ycd 256 (r.map (· + 96)))
  | [], _ => rfl
  | x :: r, h => by
    rw [List.reverse_cons, y8_s, y8_e r (fun x hx => h x (List.mem_cons_of_mem _ hx)), List.map_cons, ycd]
    exact y_shor (k := 8) (by decide) (by decide) (h x List.mem_cons_self)
theorem lN_inj {a b : Nat} (ha : a < 2 ^ 64) (hb : b < 2 ^ 64) (h : lN a = lN b) : a = b := by
  have : (lN a).toBitVec.toNat = (lN b).toBitVec.toNat := by rw [h]
  have e : ∀ n, (lN n).toBitVec.toNat = n % 2 ^ 64 := fun n => by
    show (BitVec.ofNat 64 n).toNat = _
    rw [BitVec.toNat_ofNat]
  rw [e, e, Nat.mod_eq_of_lt ha, Nat.mod_eq_of_lt hb] at this
  exact this
def ywd1 (l : List Nat) : Prop := l.length ≤ 8 ∧ ∀ x, x ∈ l → 0 < x ∧ x ≤ 26
theorem y5_inj {l l' : List Nat} (h : ywd1 l) (h' : ywd1 l') (e : y5 l = y5 l') : l = l' := by
  have m : ∀ {l : List Nat}, ywd1 l → ∀ x, x ∈ l.reverse → 0 < x ∧ x < 32 := fun h x hx => by
    have := h.2 x (List.mem_reverse.mp hx)
    omega
  have q : ∀ {l : List Nat}, ywd1 l → y5 l = lN (ycd 32 l.reverse) ∧ ycd 32 l.reverse < 2 ^ 64 := fun {l} h => by
    refine ⟨?_, ?_⟩
    · have := y5_e l.reverse (fun x hx => (m h x hx).2)
      rw [List.reverse_reverse] at this
      exact this
    · refine Nat.lt_of_lt_of_le (ycd_lt (by decide) _ (fun x hx => (m h x hx).2)) ?_
      rw [List.length_reverse]
      exact Nat.le_trans (Nat.pow_le_pow_right (by decide) h.1) (by decide)
  rw [(q h).1, (q h').1] at e
  have := ycd_inj _ _ (m h) (m h') (lN_inj (q h).2 (q h').2 e)
  have := congrArg List.reverse this
  rw [List.reverse_reverse, List.reverse_reverse] at this
  exact this
theorem y8_inj {l l' : List Nat} (h : ywd1 l) (h' : ywd1 l') (e : y8 l = y8 l') : l = l' := by
  have m : ∀ {l : List Nat}, ywd1 l → ∀ x, x ∈ l.reverse.map (· + 96) → 0 < x ∧ x < 256 := fun h x hx => by
    obtain ⟨y, hy, rfl⟩ := List.mem_map.mp hx
    have := h.2 y (List.mem_reverse.mp hy)
    omega
  have q : ∀ {l : List Nat}, ywd1 l → y8 l = lN (ycd 256 (l.reverse.map (· + 96))) ∧ ycd 256 (l.reverse.map (· + 96)) < 2 ^ 64 := fun {l} h => by
    refine ⟨?_, ?_⟩
    · have := y8_e l.reverse (fun x hx => by have := h.2 x (List.mem_reverse.mp hx); omega)
      rw [List.reverse_reverse] at this
      exact this
    · refine Nat.lt_of_lt_of_le (ycd_lt (by decide) _ (fun x hx => (m h x hx).2)) ?_
      rw [List.length_map, List.length_reverse]
      exact Nat.le_trans (Nat.pow_le_pow_right (by decide) h.1) (by decide)
  rw [(q h).1, (q h').1] at e
  have a := ycd_inj _ _ (m h) (m h') (lN_inj (q h).2 (q h').2 e)
  have b : l.reverse = l'.reverse := by
    have inj : ∀ (u v : List Nat), u.map (· + 96) = v.map (· + 96) → u = v := by
      intro u
      induction u with
      | nil => intro v hv; cases v with
        | nil => rfl
        | cons y v => cases hv
      | cons x u ih => intro v hv; cases v with
        | nil => cases hv
        | cons y v =>
          rw [List.map_cons, List.map_cons] at hv
          have h1 := (List.cons.inj hv).1
          have h2 := (List.cons.inj hv).2
          rw [ih v h2, show x = y by omega]
    exact inj _ _ a
  have := congrArg List.reverse b
  rw [List.reverse_reverse, List.reverse_reverse] at this
  exact this
theorem ywc_e : ∀ w, w < 18 → ywc w = y5 (ykw.getD w []) := by decide +kernel
theorem y_b256 : ∀ b, b < 256 → (decide (ysx (nI b) = 32) = decide (b = 32)) ∧ (decide (ysx (nI b) = 10) = decide (b = 10)) ∧ ((!decide (ysx (nI b) < 97) && !decide (122 < ysx (nI b))) = ylet b) ∧ ((!decide (ysx (nI b) < 48) && !decide (57 < ysx (nI b))) = ydig b) ∧ (Int32.toUInt32 (ysx (nI b) &&& 255) % 65536).toInt32 = nI b ∧ (ylet b = true → ysx (nI b) &&& 31 = nI (b - 96)) ∧ (ydig b = true → ysx (nI b) = nI b) := by decide +kernel
/-- what reading may change -/
def yfp (A B : zIL) : Prop := (∀ c j, ¬ (c = 1 ∧ 7 ≤ j ∧ j ≤ 10) → B.1 c j = A.1 c j) ∧ (∀ c j, ¬ (c = 1 ∧ j = 11) → B.2 c j = A.2 c j)
theorem yfp_rf {A : zIL} : yfp A A := ⟨fun _ _ _ => rfl, fun _ _ _ => rfl⟩
theorem yfp_tr {A B C : zIL} (h1 : yfp A B) (h2 : yfp B C) : yfp A C := ⟨fun c j h => (h2.1 c j h).trans (h1.1 c j h), fun c j h => (h2.2 c j h).trans (h1.2 c j h)⟩
theorem yfp_wi {A : zIL} {j : Nat} {v : Int32} (h : 7 ≤ j ∧ j ≤ 10) : yfp A (zwi A 1 j v) := ⟨fun c j' hc => by
  by_cases e : c = 1
  · subst e
    rw [zwi_at, if_neg (fun q => hc ⟨rfl, by omega⟩)]
  · rw [zwi_ne e], fun _ _ _ => rfl⟩
theorem yfp_wl {A : zIL} {v : Int64} : yfp A (zwl A 1 11 v) := ⟨fun _ _ _ => rfl, fun c j hc => by
  by_cases e : c = 1
  · subst e
    show zup A.2 1 11 v 1 j = _
    rw [zup_at, if_neg (fun q => hc ⟨rfl, q⟩)]
  · show zup A.2 1 11 v c j = _
    rw [zup_ne e]⟩
theorem zwl_at {A : zIL} {c j : Nat} {v : Int64} : (zwl A c j v).2 c j = v := by
  show zup A.2 c j v c j = v
  rw [zup_at, if_pos rfl]
/-- the tape and the own words -/
def ytp (n : Nat) (B : Nat → Nat) (IL : zIL) : Prop := IL.1 1 0 = nI n ∧ (∀ j, j < n → IL.1 2 j = ysx (nI (B j))) ∧ (∀ w, w < 18 → IL.2 5 w = ywc w)
theorem ytp_fr {n : Nat} {B : Nat → Nat} {A C : zIL} (h : ytp n B A) (f : yfp A C) : ytp n B C := ⟨by rw [f.1 1 0 (by omega)]; exact h.1, fun j hj => by rw [f.1 2 j (by omega)]; exact h.2.1 j hj, fun w hw => by rw [f.2 5 w (by omega)]; exact h.2.2 w hw⟩
/-- the token that is looked at -/
def ytC0 (a : ytkT) (IL : zIL) : Prop := IL.1 1 7 = nI a.k ∧ IL.1 1 8 = nI a.s ∧ IL.1 1 9 = nI a.e ∧ (a.k = 2 → IL.1 1 10 = nI a.n) ∧ ((a.k = 3 ∨ 100 ≤ a.k) → IL.2 1 11 = y5 a.w)
section ADV
variable {xs : List Int32} {d : Nat} {Q : zQ} {t : Bool} {IL IL0 : zIL} {n : Nat} {B : Nat → Nat}
theorem c_isLetter {b : Nat} (hb : b < 256) (h0 : ylet b = false → Q (zFx t, IL) (some (.int 0))) (h1 : ylet b = true → Q (zFx t, IL) (some (.int 1))) : zcall xs (d + 1) 76 (zFx t, IL) [.int (ysx (nI b))] Q := by
  have e := (y_b256 b hb).2.2.1
  refine sX5_isLetter t _ IL (zdec (fun z => h0 ?_) (fun z => zdec (fun w => h0 ?_) (fun w => h1 ?_)))
  · rw [← e, decide_eq_true z]; rfl
  · rw [← e, decide_eq_true w, Bool.not_true, Bool.and_false]
  · rw [← e, decide_eq_false z, decide_eq_false w]; rfl
theorem c_isDigit {b : Nat} (hb : b < 256) (h0 : ydig b = false → Q (zFx t, IL) (some (.int 0))) (h1 : ydig b = true → Q (zFx t, IL) (some (.int 1))) : zcall xs (d + 1) 77 (zFx t, IL) [.int (ysx (nI b))] Q := by
  have e := (y_b256 b hb).2.2.2.1
  refine sX5_isDigit t _ IL (zdec (fun z => h0 ?_) (fun z => zdec (fun w => h0 ?_) (fun w => h1 ?_)))
  · rw [← e, decide_eq_true z]; rfl
  · rw [← e, decide_eq_true w, Bool.not_true, Bool.and_false]
  · rw [← e, decide_eq_false z, decide_eq_false w]; rfl
/-- the own words, one by one -/
theorem l_sw93 {w : List Nat} (hw : ywd1 w) (hc : ∀ v, v < 18 → IL0.2 5 v = ywc v) (hn : IL0.2 1 11 = y5 w) (hQ : ∀ IL', yfp IL0 IL' → IL'.1 1 8 = IL0.1 1 8 → IL'.1 1 9 = IL0.1 1 9 → IL'.2 = IL0.2 → IL'.1 1 7 = nI (yknd w) → Q (zFx t, IL') none) (h7 : IL0.1 1 7 = 3) : ∀ (m i : Nat), i + m = 18 → ykx w 18 0 = ykx w m i → gX5_scanWord xs d Q 93 [.ref 1, .int (nI i)] [] (zFx t, IL0)
  | 0, i, hi, he => by
    have e : yknd w = 3 := by unfold yknd; rw [he]; rfl
    refine sX5_scanWord_93 t _ IL0 (zd_f (n := 18) rfl (by omega) (by omega) (hQ IL0 yfp_rf rfl rfl rfl (by rw [e, h7]; rfl)))
  | m + 1, i, hi, he => by
    refine sX5_scanWord_93 t _ IL0 (zd_t (n := 18) rfl (by omega) (by omega) ?_)
    rw [h7]
    refine zdec (fun _ => zix_n (by omega) (by omega) ?_) (fun z => absurd rfl z)
    rw [ycl (by omega), hc i (by omega), hn, ywc_e i (by omega), nI_1]
    have hk : ywd1 (ykw.getD i []) := ⟨ykw_len i (by omega), ykw_in i (by omega)⟩
    refine zdec (fun z => ?_) (fun z => ?_)
    · have e := y5_inj hk hw ((lg_cmp_eq _ _).mp z)
      have ek : yknd w = 100 + i := by unfold yknd; rw [he, ykx, if_pos e]
      have e7 : (zwi IL0 1 7 (100 + nI i)).1 1 7 = nI (100 + i) := by rw [zwi_at, if_pos rfl]; exact nI_add 100 i
      have fin := hQ (zwi IL0 1 7 (100 + nI i)) (yfp_wi (by omega)) (by rw [zwi_at, if_neg (by decide)]) (by rw [zwi_at, if_neg (by decide)]) rfl (by rw [e7, ek])
      refine sX5_scanWord_93 t _ _ (zdec (fun _ => ?_) (fun _ => fin))
      rw [e7]
      exact zdec (fun q => absurd ((nI_eq (b := 3) (by omega) (by omega)).mp q) (by omega)) (fun _ => fin)
    · have ne : ¬ ykw.getD i [] = w := fun q => z ((lg_cmp_eq _ _).mpr (by rw [q]))
      exact l_sw93 hw hc hn hQ h7 m (i + 1) (by omega) (by rw [he, ykx, if_neg ne])
theorem l_sw5 {s e : Nat} (hn : n ≤ 1600) (hB : ∀ j, j < n → B j < 256) (ht : ytp n B IL0) (hsn : s ≤ n) (he : e = yE ylet B n s) (hQ : ∀ IL', yfp IL0 IL' → IL'.1 1 8 = nI s → IL'.1 1 9 = nI e → (8 < e - s → IL'.1 1 7 = 0) → (¬ 8 < e - s → IL'.1 1 7 = nI (yknd (yltr B s (e - s))) ∧ IL'.2 1 11 = y5 (yltr B s (e - s))) → Q (zFx t, IL') none) : ∀ (m i : Nat) (IL : zIL) (w1 : Value), i + m = e → s ≤ i → yfp IL0 IL → IL.1 1 8 = nI s → IL.1 1 9 = nI i → IL.2 1 11 = y5 (yltr B s (i - s)) → gX5_scanWord xs (d + 1) Q 5 [.ref 1, w1] [] (zFx t, IL) := by
  intro m
  have hen : e ≤ n := by rw [he]; exact yE_le hsn
  -- behind the last letter
  have fin : ∀ (IL : zIL), yfp IL0 IL → IL.1 1 8 = nI s → IL.1 1 9 = nI e → IL.2 1 11 = y5 (yltr B s (e - s)) → s ≤ e → e ≤ 1601 → zif2 (decide (8 < IL.1 1 9 - IL.1 1 8)) (gX5_scanWord xs (d + 1) Q 93 [.ref 1, .int 0] [] (zFx t, zwi IL 1 7 0)) (gX5_scanWord xs (d + 1) Q 93 [.ref 1, .int 0] [] (zFx t, zwi IL 1 7 3)) := fun IL fr g8 g9 gn hse h16 => by
    rw [g9, g8, pk_sub hse]
    have k8 : ∀ v, (zwi IL 1 7 v).1 1 8 = nI s := fun v => by rw [zwi_at, if_neg (by decide)]; exact g8
    have k9 : ∀ v, (zwi IL 1 7 v).1 1 9 = nI e := fun v => by rw [zwi_at, if_neg (by decide)]; exact g9
    refine zdec (fun z => ?_) (fun z => ?_)
    · have z' := (nI_ltI (a := 8) (by omega) (by omega)).mp z
      have f := hQ (zwi IL 1 7 0) (yfp_tr fr (yfp_wi (by omega))) (k8 0) (k9 0) (fun _ => by rw [zwi_at, if_pos rfl]) (fun q => absurd z' q)
      refine sX5_scanWord_93 t _ _ (zdec (fun _ => ?_) (fun _ => f))
      rw [zwi_at, if_pos rfl]
      exact zdec (fun q => absurd q (by decide)) (fun _ => f)
    · have z' : ¬ 8 < e - s := fun q => z ((nI_ltI (a := 8) (by omega) (by omega)).mpr q)
      have hw : ywd1 (yltr B s (e - s)) := ⟨by rw [yltr_len]; omega, yltr_in s (e - s) (fun j hj => by
        have : s + j < yE ylet B n s := by rw [← he]; omega
        exact yE_p (by omega) this)⟩
      refine l_sw93 (IL0 := zwi IL 1 7 3) hw (fun v hv => (ytp_fr ht fr).2.2 v hv) gn (fun IL' f' a8 a9 al a7 => ?_) (by rw [zwi_at, if_pos rfl]) 18 0 (by omega) rfl
      exact hQ IL' (yfp_tr fr (yfp_tr (yfp_wi (by omega)) f')) (by rw [a8]; exact k8 3) (by rw [a9]; exact k9 3) (fun q => absurd q z') (fun _ => ⟨a7, by rw [al]; exact gn⟩)
  induction m with
  | zero =>
    intro i IL w1 hi hsi fr g8 g9 gn
    have hie : i = e := by omega
    subst hie
    have htI := ytp_fr ht fr
    have hq : ¬ (i < n ∧ ylet (B i) = true) := by rw [he]; exact yE_q
    have f := fin IL fr g8 g9 gn hsi (by omega)
    refine sX5_scanWord_5 t _ IL ?_
    rw [htI.1]
    have f' := f
    rw [g9] at f' ⊢
    rcases Nat.lt_or_ge i n with q | q
    · refine zd_t rfl q (by omega) (zix_n (by omega) (by omega) ?_)
      rw [ycl (by omega), htI.2.1 i q]
      refine c_isLetter (hB i q) (fun _ => kI (z0 f)) (fun g => absurd ⟨q, g⟩ hq)
    · exact zd_f rfl q (by omega) f'
  | succ m ih =>
    intro i IL w1 hi hsi fr g8 g9 gn
    have htI := ytp_fr ht fr
    have hlt : i < yE ylet B n s := by rw [← he]; omega
    have hp : ylet (B i) = true := yE_p hsi hlt
    have hin : i < n := by omega
    refine sX5_scanWord_5 t _ IL ?_
    rw [htI.1, g9]
    refine zd_t rfl hin (by omega) (zix_n (by omega) (by omega) ?_)
    rw [ycl (by omega), htI.2.1 i hin]
    refine c_isLetter (hB i hin) (fun g => absurd hp (by rw [g]; decide)) (fun _ => kI (z1 ?_))
    rw [g9]
    refine zix_n (by omega) (by omega) ?_
    rw [ycl (by omega), htI.2.1 i hin, (y_b256 (B i) (hB i hin)).2.2.2.2.2.1 hp, gn]
    have e9 : (zwl IL 1 11 ((y5 (yltr B s (i - s)) <<< (Int32.toInt64 5 &&& 63)) ||| Int32.toInt64 (nI (B i - 96)))).1 1 9 + 1 = nI (i + 1) := by
      show IL.1 1 9 + 1 = _
      rw [g9, nI_1]
    rw [e9]
    refine ih (i + 1) _ w1 (by omega) (by omega) (yfp_tr fr (yfp_tr yfp_wl (yfp_wi (by omega)))) (by rw [zwi_at, if_neg (by decide)]; exact g8) (by rw [zwi_at, if_pos rfl]) ?_
    show (zwl IL 1 11 _).2 1 11 = _
    rw [show i + 1 - s = (i - s) + 1 by omega, yltr, y5_s, show s + (i - s) = i by omega]
    exact zwl_at
theorem y_dec {a b c : Nat} : nI a * 10 + nI b - 48 = nI (10 * a + (b - 48)) ∨ ¬ 48 ≤ b := by
  by_cases h : 48 ≤ b
  · left
    rw [show (10 : Int32) = nI 10 from rfl, pk_mul, nI_add, show (48 : Int32) = nI 48 from rfl, pk_sub (by omega)]
    congr 1
    omega
  · right
    exact h
theorem ydig_48 {b : Nat} (h : ydig b = true) : 48 ≤ b := by
  unfold ydig at h
  rw [Bool.and_eq_true_iff] at h
  exact of_decide_eq_true h.1
theorem l_sn5 {s e : Nat} (hn : n ≤ 1600) (hB : ∀ j, j < n → B j < 256) (ht : ytp n B IL0) (hsn : s ≤ n) (he : e = yE ydig B n s) (hQ : ∀ IL', yfp IL0 IL' → IL'.1 1 8 = nI s → IL'.1 1 9 = nI e → ((4 < e - s ∨ (e < n ∧ ylet (B e) = true)) → IL'.1 1 7 = 0) → (¬ (4 < e - s ∨ (e < n ∧ ylet (B e) = true)) → IL'.1 1 7 = 2 ∧ IL'.1 1 10 = nI (ynum B s (e - s))) → Q (zFx t, IL') none) : ∀ (m i : Nat) (IL : zIL) (w1 : Value), i + m = e → s ≤ i → yfp IL0 IL → IL.1 1 8 = nI s → IL.1 1 9 = nI i → IL.1 1 10 = nI (ynum B s (i - s)) → gX5_scanNumber xs (d + 1) Q 5 [.ref 1, w1] [] (zFx t, IL) := by
  intro m
  have hen : e ≤ n := by rw [he]; exact yE_le hsn
  -- behind the last digit
  have fin : ∀ (IL : zIL) (w1 : Value), yfp IL0 IL → IL.1 1 8 = nI s → IL.1 1 9 = nI e → IL.1 1 10 = nI (ynum B s (e - s)) → s ≤ e → gX5_scanNumber xs (d + 1) Q 68 [.ref 1, w1] [] (zFx t, IL) := fun IL w1 fr g8 g9 gn hse => by
    have htI := ytp_fr ht fr
    have k8 : ∀ v, (zwi IL 1 7 v).1 1 8 = nI s := fun v => by rw [zwi_at, if_neg (by decide)]; exact g8
    have k9 : ∀ v, (zwi IL 1 7 v).1 1 9 = nI e := fun v => by rw [zwi_at, if_neg (by decide)]; exact g9
    have k10 : ∀ v, (zwi IL 1 7 v).1 1 10 = nI (ynum B s (e - s)) := fun v => by rw [zwi_at, if_neg (by decide)]; exact gn
    have k7 : ∀ v, (zwi IL 1 7 v).1 1 7 = v := fun v => by rw [zwi_at, if_pos rfl]
    have bad : (4 < e - s ∨ (e < n ∧ ylet (B e) = true)) → Q (zFx t, zwi IL 1 7 0) none := fun h => hQ _ (yfp_tr fr (yfp_wi (by omega))) (k8 0) (k9 0) (fun _ => k7 0) (fun q => absurd h q)
    have tail : ¬ (e < n ∧ ylet (B e) = true) → gX5_scanNumber xs (d + 1) Q 98 [.ref 1, w1] [] (zFx t, IL) := fun h => by
      refine sX5_scanNumber_98 t _ IL ?_
      rw [g9, g8, pk_sub hse]
      refine zdec (fun z => bad (Or.inl ((nI_ltI (a := 4) (by omega) (by omega)).mp z))) (fun z => ?_)
      have z' : ¬ 4 < e - s := fun q => z ((nI_ltI (a := 4) (by omega) (by omega)).mpr q)
      have nb : ¬ (4 < e - s ∨ (e < n ∧ ylet (B e) = true)) := fun q => q.elim z' h
      exact hQ _ (yfp_tr fr (yfp_wi (by omega))) (k8 2) (k9 2) (fun q => absurd q nb) (fun _ => ⟨k7 2, k10 2⟩)
    refine sX5_scanNumber_68 t _ IL ?_
    rw [htI.1, g9]
    rcases Nat.lt_or_ge e n with q | q
    · refine zd_t rfl q (by omega) (zix_n (by omega) (by omega) ?_)
      rw [ycl (by omega), htI.2.1 e q]
      refine c_isLetter (hB e q) (fun g => kI (z0 (tail (fun w => by rw [g] at w; cases w.2)))) (fun g => kI (z1 ?_))
      exact zdec (fun _ => bad (Or.inr ⟨q, g⟩)) (fun _ => bad (Or.inr ⟨q, g⟩))
    · exact zd_f rfl q (by omega) (tail (fun w => by omega))
  induction m with
  | zero =>
    intro i IL w1 hi hsi fr g8 g9 gn
    have hie : i = e := by omega
    subst hie
    have htI := ytp_fr ht fr
    have hq : ¬ (i < n ∧ ydig (B i) = true) := by rw [he]; exact yE_q
    have f := fin IL w1 fr g8 g9 gn hsi
    refine sX5_scanNumber_5 t _ IL ?_
    rw [htI.1, g9]
    rcases Nat.lt_or_ge i n with q | q
    · refine zd_t rfl q (by omega) (zix_n (by omega) (by omega) ?_)
      rw [ycl (by omega), htI.2.1 i q]
      exact c_isDigit (hB i q) (fun _ => kI (z0 f)) (fun g => absurd ⟨q, g⟩ hq)
    · exact zd_f rfl q (by omega) f
  | succ m ih =>
    intro i IL w1 hi hsi fr g8 g9 gn
    have htI := ytp_fr ht fr
    have hlt : i < yE ydig B n s := by rw [← he]; omega
    have hp : ydig (B i) = true := yE_p hsi hlt
    have hin : i < n := by omega
    refine sX5_scanNumber_5 t _ IL ?_
    rw [htI.1, g9]
    refine zd_t rfl hin (by omega) (zix_n (by omega) (by omega) ?_)
    rw [ycl (by omega), htI.2.1 i hin]
    refine c_isDigit (hB i hin) (fun g => absurd hp (by rw [g]; decide)) (fun _ => kI (z1 ?_))
    rw [g9]
    refine zix_n (by omega) (by omega) ?_
    have eb : ysx (nI (B i)) = nI (B i) := (y_b256 (B i) (hB i hin)).2.2.2.2.2.2 hp
    rw [ycl (by omega), htI.2.1 i hin, gn, eb, (y_dec (c := 0)).resolve_right (fun q => q (ydig_48 hp))]
    rw [zwi_at, if_neg (show ¬ (9 : Nat) = 10 by decide), g9, nI_1]
    refine ih (i + 1) _ w1 (by omega) (by omega) (yfp_tr fr (yfp_tr (yfp_wi (by omega)) (yfp_wi (by omega)))) (by rw [zwi_at, if_neg (by decide), zwi_at, if_neg (by decide)]; exact g8) (by rw [zwi_at, if_pos rfl]) ?_
    rw [zwi_at, if_neg (by decide), zwi_at, if_pos rfl, show i + 1 - s = (i - s) + 1 by omega, ynum, show s + (i - s) = i by omega]
theorem y_sgn : ∀ b, b < 256 → (¬ (nI b < 0) ∧ ¬ (255 < nI b)) ∧ ∀ i, i < 11 → (zsigns.getD i 0 = (Int32.toInt8 (nI b)).toInt32 ↔ [59, 40, 41, 60, 62, 61, 43, 45, 42, 47, 37].getD i 0 = b) := by decide +kernel
theorem y_sg2 : ∀ b, b < 256 → ysig b = true → ∃ i, i < 11 ∧ [59, 40, 41, 60, 62, 61, 43, 45, 42, 47, 37].getD i 0 = b := by decide +kernel
theorem y_sg3 : ∀ i, i < 11 → ysig ([59, 40, 41, 60, 62, 61, 43, 45, 42, 47, 37].getD i 0) = true := by decide
theorem l_ix {b : Nat} {F : zF} (hb : b < 256) (h0 : ysig b = false → Q (F, IL) (some (.int (-1)))) (h1 : ∀ i, i < 11 → ysig b = true → Q (F, IL) (some (.int (nI i)))) : ∀ (m i : Nat), i + m = 11 → (∀ j, j < i → ¬ [59, 40, 41, 60, 62, 61, 43, 45, 42, 47, 37].getD j 0 = b) → gJ1_indexOfChar_4cfef xs d Q 7 [.retAddr 6, .int (nI b), .int 0, .int (nI 11), .int ((Int32.toInt8 (nI b)).toInt32), .int (nI i)] [] (F, IL)
  | 0, i, hi, hno => by
    refine sJ1_indexOfChar_4cfef_7 F _ _ _ _ _ IL (zd_f rfl (by omega) (by omega) (h0 ?_))
    cases e : ysig b
    · rfl
    · obtain ⟨j, hj, ej⟩ := y_sg2 b hb e
      exact absurd ej (hno j (by omega))
  | m + 1, i, hi, hno => by
    refine sJ1_indexOfChar_4cfef_7 F _ _ _ _ _ IL (zd_t rfl (by omega) (by omega) (zix_n (by show i < 11; omega) (by decide) ?_))
    rw [ycl (by omega)]
    refine zdec (fun z => ?_) (fun z => ?_)
    · have e := ((y_sgn b hb).2 i (by omega)).mp z
      exact h1 i (by omega) (by rw [← e]; exact y_sg3 i (by omega))
    · rw [nI_1]
      refine l_ix hb h0 h1 m (i + 1) (by omega) (fun j hj => ?_)
      by_cases e : j = i
      · rw [e]; exact fun q => z (((y_sgn b hb).2 i (by omega)).mpr q)
      · exact hno j (by omega)
theorem c_indexOf {b : Nat} (hb : b < 256) (h0 : ysig b = false → Q (zFx t, IL) (some (.int (-1)))) (h1 : ∀ i, i < 11 → ysig b = true → Q (zFx t, IL) (some (.int (nI i)))) : zcall xs (d + 4) 17 (zFx t, IL) [.retAddr 4, .int (nI b)] Q := by
  obtain ⟨⟨n1, n2⟩, _⟩ := y_sgn b hb
  have e11 : (nI zsigns.length) >>> ((0 : Int32) &&& 31) = nI 11 := by decide
  refine sJ0_indexOf_0f7a4 (zFx t) _ IL (sJ0_indexOf_7cf53 (zFx t) _ _ IL (sJ0_isLatin1_aae02_4 (zFx t) IL (kI (z1 (sJ0_length_8abf5_4 (zFx t) IL (sJ0_coder_7d493_4 (zFx t) IL ⟨rfl, kI (kI ?_)⟩))))))
  rw [e11]
  refine sJ1_indexOf_4cfef (zFx t) _ _ _ IL (sJ1_canEncode_9a6ad (zFx t) _ IL (zdec (fun z => absurd z n1) (fun _ => zdec (fun z => absurd z n2) (fun _ => kI (z1 (c_max (kI (c_min (kI ?_)))))))))
  rw [show zmax 0 0 = 0 by decide, show zmin (nI 11) (nI zsigns.length) = nI 11 by decide]
  refine zdec (fun _ => sJ1_indexOfChar_4cfef (zFx t) _ _ _ IL (l_ix hb (fun h => kI (kI (kI (h0 h)))) (fun i hi h => kI (kI (kI (h1 i hi h)))) 11 0 (by omega) (fun j hj => absurd hj (Nat.not_lt_zero j)))) (fun z => absurd (by decide) z)
theorem l_adv8 {p s : Nat} (hn : n ≤ 1600) (hB : ∀ j, j < n → B j < 256) (ht : ytp n B IL0) (hpn : p ≤ n) (hs : s = yE yspc B n p) (hQ : ∀ IL' w1, yfp IL0 IL' → IL'.1 1 8 = nI s → gX5_advance xs (d + 4) Q 60 [.ref 1, w1] [] (zFx t, IL')) : ∀ (m i : Nat) (IL : zIL) (w1 : Value), i + m = s → p ≤ i → yfp IL0 IL → IL.1 1 8 = nI i → gX5_advance xs (d + 4) Q 8 [.ref 1, w1] [] (zFx t, IL)
  | 0, i, IL, w1, hi, hpi, fr, h8 => by
    have e : i = s := by omega
    subst e
    have htI := ytp_fr ht fr
    have hsn : i ≤ n := by rw [hs]; exact yE_le hpn
    have hq : ¬ (i < n ∧ yspc (B i) = true) := by rw [hs]; exact yE_q
    refine sX5_advance_8 t _ IL ?_
    rw [h8, htI.1]
    rcases Nat.lt_or_ge i n with q | q
    · have nsp : yspc (B i) = false := by
        cases e : yspc (B i)
        · rfl
        · exact absurd ⟨q, e⟩ hq
      unfold yspc at nsp
      rw [Bool.or_eq_false_iff] at nsp
      have b := y_b256 (B i) (hB i q)
      refine zd_t rfl q (by omega) (zix_n (by omega) (by omega) ?_)
      rw [ycl (by omega), htI.2.1 i q]
      refine zdec (fun z => absurd z (by have := b.1; rw [nsp.1] at this; exact of_decide_eq_false this)) (fun _ => zix_n (by omega) (by omega) (zdec (fun z => absurd z (by have := b.2.1; rw [nsp.2] at this; exact of_decide_eq_false this)) (fun _ => hQ IL w1 fr h8)))
    · exact zd_f rfl q (by omega) (hQ IL w1 fr h8)
  | m + 1, i, IL, w1, hi, hpi, fr, h8 => by
    have htI := ytp_fr ht fr
    have hlt : i < yE yspc B n p := by rw [← hs]; omega
    have hsn : s ≤ n := by rw [hs]; exact yE_le hpn
    have hp : yspc (B i) = true := yE_p hpi hlt
    have q : i < n := by omega
    have b := y_b256 (B i) (hB i q)
    have next : gX5_advance xs (d + 4) Q 47 [.ref 1, w1] [] (zFx t, IL) := by
      refine sX5_advance_47 t _ IL ?_
      rw [h8, nI_1]
      exact l_adv8 hn hB ht hpn hs hQ m (i + 1) _ w1 (by omega) (by omega) (yfp_tr fr (yfp_wi (by omega))) (by rw [zwi_at, if_pos rfl])
    refine sX5_advance_8 t _ IL ?_
    rw [h8, htI.1]
    refine zd_t rfl q (by omega) (zix_n (by omega) (by omega) ?_)
    rw [ycl (by omega), htI.2.1 i q]
    refine zdec (fun _ => next) (fun z => zix_n (by omega) (by omega) (zdec (fun _ => next) (fun w => ?_)))
    have e1 := b.1
    have e2 := b.2.1
    rw [decide_eq_false z] at e1
    rw [decide_eq_false w] at e2
    unfold yspc at hp
    rw [← e1, ← e2] at hp
    cases hp
theorem c_adv0 {p : Nat} (hn : n ≤ 1600) (hB : ∀ j, j < n → B j < 256) (ht : ytp n B IL) (hpn : p ≤ n) (h9 : IL.1 1 9 = nI p) (hQ : ∀ IL', yfp IL IL' → ytC0 (ytok B n p) IL' → Q (zFx t, IL') none) : zcall xs (d + 5) 73 (zFx t, IL) [.ref 1] Q := by
  refine sX5_advance t IL ?_
  rw [h9]
  have hsn : yE yspc B n p ≤ n := yE_le hpn
  refine l_adv8 (IL0 := IL) hn hB ht hpn rfl (fun I1 w1 f1 g8 => ?_) (yE yspc B n p - p) p _ _ (by have := yE_ge (P := yspc) (B := B) (n := n) (i := p); omega) (Nat.le_refl _) (yfp_wi (by omega)) (by rw [zwi_at, if_pos rfl])
  unfold ytok at hQ
  generalize yE yspc B n p = s at hQ g8 hsn
  refine sX5_advance_60 t _ I1 ?_
  have htI := ytp_fr ht f1
  have w8 : (zwi I1 1 9 (I1.1 1 8)).1 1 8 = nI s := by rw [zwi_at, if_neg (by decide)]; exact g8
  have w0 : (zwi I1 1 9 (I1.1 1 8)).1 1 0 = nI n := by rw [zwi_at, if_neg (by decide)]; exact htI.1
  rw [w8, w0]
  have f2 : yfp IL (zwi I1 1 9 (I1.1 1 8)) := yfp_tr f1 (yfp_wi (by omega))
  have w9 : (zwi I1 1 9 (I1.1 1 8)).1 1 9 = nI s := by rw [zwi_at, if_pos rfl]; exact g8
  generalize zwi I1 1 9 (I1.1 1 8) = M at w8 w0 f2 w9
  have htM := ytp_fr ht f2
  rcases Nat.lt_or_ge s n with q | q
  · have eT := htM.2.1 s q
    unfold ytk1 at hQ
    rw [if_pos q] at hQ
    refine zd_t rfl q (by omega) (zix_n (by omega) (by omega) ?_)
    rw [ycl (by omega), eT]
    refine c_isLetter (hB s q) (fun hl => kI (z0 ?_)) (fun hl => kI (z1 (sX5_scanWord t M ?_)))
    · rw [hl, if_neg (by decide)] at hQ
      rw [w8]
      refine zix_n (by omega) (by omega) ?_
      rw [ycl (by omega), eT]
      refine c_isDigit (hB s q) (fun hd => kI (z0 ?_)) (fun hd => kI (z1 (sX5_scanNumber t M ?_)))
      · rw [hd, if_neg (by decide)] at hQ
        rw [w8]
        refine zix_n (by omega) (by omega) ?_
        rw [ycl (by omega), eT, (y_b256 (B s) (hB s q)).2.2.2.2.1]
        have fin : ∀ (v : Int32) (w : Value), Q (zFx t, zwi (zwi M 1 7 v) 1 9 (nI (s + 1))) none → gX5_advance xs (d + 4) Q 174 [.ref 1, w] [] (zFx t, zwi (zwi M 1 7 v) 1 9 ((zwi M 1 7 v).1 1 8 + 1)) := fun v w h => by
          refine sX5_advance_174 t _ _ ?_
          rw [zwi_at, if_neg (show ¬ (8 : Nat) = 7 by decide), w8, nI_1]
          exact h
        have tc : ∀ v k, v = nI k → k ≠ 2 → ¬ (k = 3 ∨ 100 ≤ k) → ytC0 (ytkT.mk k s (s + 1) 0 []) (zwi (zwi M 1 7 v) 1 9 (nI (s + 1))) := fun v k hv h2 h3 => ⟨by rw [zwi_at, if_neg (by decide), zwi_at, if_pos rfl]; exact hv, by rw [zwi_at, if_neg (by decide), zwi_at, if_neg (by decide)]; exact w8, by rw [zwi_at, if_pos rfl]; rfl, fun z => absurd z h2, fun z => absurd z h3⟩
        have ff : ∀ v, yfp IL (zwi (zwi M 1 7 v) 1 9 (nI (s + 1))) := fun v => yfp_tr f2 (yfp_tr (yfp_wi (by omega)) (yfp_wi (by omega)))
        refine c_indexOf (hB s q) (fun hg => kI (zdec (fun _ => fin 0 _ ?_) (fun z => absurd (by decide) z))) (fun i hi hg => kI (zdec (fun z => absurd z (nI_pos (by omega))) (fun _ => fin (nI (B s)) _ ?_)))
        · rw [hg, if_neg (by decide)] at hQ
          exact hQ _ (ff 0) (tc 0 0 rfl (by decide) (by decide))
        · rw [hg, if_pos rfl] at hQ
          have sg : ∀ b, b < 256 → ysig b = true → b ≠ 2 ∧ ¬ (b = 3 ∨ 100 ≤ b) := by decide +kernel
          obtain ⟨s1, s2⟩ := sg (B s) (hB s q) hg
          exact hQ _ (ff _) (tc _ (B s) rfl s1 s2)
      · rw [hd, if_pos rfl] at hQ
        refine l_sn5 (IL0 := zwi M 1 10 0) (s := s) hn hB (ytp_fr htM (yfp_wi (by omega))) hsn rfl (fun IL' f a8 a9 a0 a1 => kV (sX5_advance_174 t _ _ ?_)) (yE ydig B n s - s) s _ _ (by have := yE_ge (P := ydig) (B := B) (n := n) (i := s); omega) (Nat.le_refl _) yfp_rf (by rw [zwi_at, if_neg (by decide)]; exact w8) (by rw [zwi_at, if_neg (by decide)]; exact w9) (by rw [zwi_at, if_pos rfl, Nat.sub_self]; rfl)
        have f3 : yfp IL IL' := yfp_tr f2 (yfp_tr (yfp_wi (by omega)) f)
        by_cases g : 4 < yE ydig B n s - s ∨ (yE ydig B n s < n ∧ ylet (B (yE ydig B n s)) = true)
        · rw [if_pos g] at hQ
          exact hQ IL' f3 ⟨a0 g, a8, a9, fun z => absurd (show (0 : Nat) = 2 from z) (by decide), fun z => absurd (show ((0 : Nat) = 3 ∨ 100 ≤ 0) from z) (by decide)⟩
        · rw [if_neg g] at hQ
          exact hQ IL' f3 ⟨(a1 g).1, a8, a9, fun _ => (a1 g).2, fun z => absurd (show ((2 : Nat) = 3 ∨ 100 ≤ 2) from z) (by decide)⟩
    · rw [hl, if_pos rfl] at hQ
      have fl : yfp M (zwl M 1 11 0) := yfp_wl
      refine l_sw5 (IL0 := zwl M 1 11 0) (s := s) hn hB (ytp_fr htM fl) hsn rfl (fun IL' f a8 a9 a0 a1 => kV (sX5_advance_174 t _ _ ?_)) (yE ylet B n s - s) s _ _ (by have := yE_ge (P := ylet) (B := B) (n := n) (i := s); omega) (Nat.le_refl _) yfp_rf w8 w9 (by rw [Nat.sub_self]; exact zwl_at)
      have f3 : yfp IL IL' := yfp_tr f2 (yfp_tr fl f)
      by_cases g : 8 < yE ylet B n s - s
      · rw [if_pos g] at hQ
        exact hQ IL' f3 ⟨a0 g, a8, a9, fun z => absurd (show (0 : Nat) = 2 from z) (by decide), fun z => absurd (show ((0 : Nat) = 3 ∨ 100 ≤ 0) from z) (by decide)⟩
      · rw [if_neg g] at hQ
        refine hQ IL' f3 ⟨(a1 g).1, a8, a9, fun z => absurd z ?_, fun _ => (a1 g).2⟩
        show ¬ yknd _ = 2
        unfold yknd
        split <;> omega
  · unfold ytk1 at hQ
    rw [if_neg (by omega)] at hQ
    refine zd_f rfl q (by omega) (sX5_advance_174 t _ _ (hQ _ (yfp_tr f2 (yfp_wi (by omega))) ⟨by rw [zwi_at, if_pos rfl]; rfl, by rw [zwi_at, if_neg (by decide)]; exact w8, by rw [zwi_at, if_neg (by decide)]; exact w9, fun z => absurd (show (1 : Nat) = 2 from z) (by decide), fun z => absurd (show ((1 : Nat) = 3 ∨ 100 ≤ 1) from z) (by decide)⟩))
/-- a token, and no place of a fault yet -/
def ytC (a : ytkT) (IL : zIL) : Prop := IL.1 1 7 = nI a.k ∧ IL.1 1 8 = nI a.s ∧ IL.1 1 9 = nI a.e ∧ (a.k = 2 → IL.1 1 10 = nI a.n) ∧ ((a.k = 3 ∨ 100 ≤ a.k) → IL.2 1 11 = y5 a.w) ∧ IL.1 1 2 = -1
theorem c_advance {p : Nat} (hn : n ≤ 1600) (hB : ∀ j, j < n → B j < 256) (ht : ytp n B IL) (hpn : p ≤ n) (h9 : IL.1 1 9 = nI p) (h2 : IL.1 1 2 = -1) (hQ : ∀ IL', yfp IL IL' → ytC (ytok B n p) IL' → Q (zFx t, IL') none) : zcall xs (d + 5) 73 (zFx t, IL) [.ref 1] Q :=
  c_adv0 hn hB ht hpn h9 (fun IL' f tk => hQ IL' f ⟨tk.1, tk.2.1, tk.2.2.1, tk.2.2.2.1, tk.2.2.2.2, by rw [f.1 1 2 (by omega)]; exact h2⟩)
end ADV
