/-! tips, tilts, league, leagues, vetoes, strength: the model's side -/
section MVLOOP
variable {xs : List Int32} {d : Nat} {Q : zQ} {t : Bool} {IL : zIL} {H : yH}
theorem l_orders {k : Nat} (hk : k ≤ 7) : ∀ (r j : Nat), j + r = k → Q (zFx t, IL) (some (.int (yfi k))) → gX8_orders xs d Q 4 [.int (nI k), .int (yfi j), .int (nI (j + 1))] [] (zFx t, IL)
  | 0, j, hj, hQ => sX8_orders_4 t _ _ _ IL (zdec (fun _ => by
      have : j = k := by omega
      rw [this]
      exact hQ) (fun z => absurd (nI_lt (by omega) (by omega)) z))
  | r + 1, j, hj, hQ => sX8_orders_4 t _ _ _ IL (zdec (fun z => absurd z (nI_nlt (by omega) (by omega))) (fun _ => by
      rw [nI_1]
      exact l_orders hk r (j + 1) (by omega) hQ))
theorem c_orders {k : Nat} (hk : k ≤ 7) (hQ : Q (zFx t, IL) (some (.int (yfi k)))) : zcall xs (d + 1) 238 (zFx t, IL) [.int (nI k)] Q := by
  refine sX8_orders t _ IL ?_
  rcases Nat.eq_zero_or_pos k with h | h
  · subst h
    exact sX8_orders_4 t _ _ _ IL (zdec (fun _ => hQ) (fun z => absurd (by decide) z))
  · exact l_orders hk (k - 1) 1 (by omega) hQ
theorem l_mtips {m : Nat} (hH : yOK H) (hM : yMH H IL) (hm : m < H.n) : ∀ (k i : Nat) (a : Int32), i + k = 2 ^ H.n → Q (zFx t, IL) (some (.int (yfo (yti H m) k i a))) → gX8_tips xs (d + 3) Q 14 [.ref 145, .int (nI m), .int a, .int (nI i)] [] (zFx t, IL)
  | 0, i, a, hi, hQ => by
    have p := y_pw7 hH.n7
    exact sX8_tips_14 t _ _ _ IL (zd_f (by rw [hM.mem, y_pow _ hH.n7]) (by omega) (by omega) hQ)
  | k + 1, i, a, hi, hQ => by
    have p := y_pw7 hH.n7
    have n7 := hH.n7
    unfold yfo yti at hQ
    refine sX8_tips_14 t _ _ _ IL (zd_t (by rw [hM.mem, y_pow _ hH.n7]) (by omega) (by omega) (c_tiltsAt hH hM hm (kI (zbb (fun e => ?_) (fun e => ?_)))))
    · rw [e] at hQ
      rw [nI_1]
      exact l_mtips hH hM hm k (i + 1) a (by omega) hQ
    · rw [e] at hQ
      obtain ⟨q1, q⟩ := y_pcn i (by omega)
      have hb : i.testBit m = false := by
        unfold yte at e
        rw [bt_nI (by omega)] at e
        cases g : i.testBit m
        · rfl
        · rw [g] at e; cases e
      have q2 := y_pcm H.n n7 m hm i (by omega) hb
      refine c_members (kI ?_)
      rw [q1]
      refine c_orders q (kI (c_members (kI ?_)))
      have e1 : nI H.n - 1 - nI (ypc i) = nI (H.n - 1 - ypc i) := by
        obtain ⟨r, hr⟩ : ∃ r, H.n = r + 1 + ypc i := ⟨H.n - 1 - ypc i, by omega⟩
        rw [show H.n - 1 - ypc i = r by omega, hr, show r + 1 + ypc i = (r + ypc i) + 1 by omega, nI_pred, ← nI_add, Int32.add_sub_cancel]
      rw [q1, hM.mem, e1]
      refine c_orders (by omega) (kI ?_)
      rw [nI_1]
      exact l_mtips hH hM hm k (i + 1) _ (by omega) hQ
theorem l_mtilts {m : Nat} (hH : yOK H) (hM : yMH H IL) (hm : m < H.n) : ∀ (k i : Nat) (a : Int32), i + k = 2 ^ H.n → Q (zFx t, IL) (some (.int (yfo (ytl H m) k i a))) → gX8_tilts xs (d + 3) Q 14 [.ref 145, .int (nI m), .int a, .int (nI i)] [] (zFx t, IL)
  | 0, i, a, hi, hQ => by
    have p := y_pw7 hH.n7
    exact sX8_tilts_14 t _ _ _ IL (zd_f (by rw [hM.mem, y_pow _ hH.n7]) (by omega) (by omega) hQ)
  | k + 1, i, a, hi, hQ => by
    have p := y_pw7 hH.n7
    unfold yfo ytl at hQ
    refine sX8_tilts_14 t _ _ _ IL (zd_t (by rw [hM.mem, y_pow _ hH.n7]) (by omega) (by omega) (c_tiltsAt hH hM hm (kI (c_truth (kI ?_)))))
    rw [nI_1]
    cases e : yte H m (nI i)
    · rw [e] at hQ
      show gX8_tilts xs (d + 3) Q 14 [.ref 145, .int (nI m), .int (a + 0), .int (nI (i + 1))] [] (zFx t, IL)
      rw [Int32.add_zero]
      exact l_mtilts hH hM hm k (i + 1) a (by omega) hQ
    · rw [e] at hQ
      exact l_mtilts hH hM hm k (i + 1) (a + 1) (by omega) hQ
theorem yls_neg {n : Nat} {a : Int32} (hn : n ≤ 7) (h : yls n a) : a < 0 ↔ a = -1 := by
  have p := y_pw7 hn
  constructor
  · intro z
    rcases h with h | ⟨j, hj, rfl⟩
    · exact h
    · exact absurd z (nI_pos (by omega))
  · rintro rfl
    decide
theorem l_mleague {m : Nat} {w : Int32} (hH : yOK H) (hM : yMH H IL) (hm : m < H.n) (hw0 : ¬ w < 0) (hw1 : ¬ 1 < w) : ∀ (k i : Nat) (a : Int32), i + k = 2 ^ H.n → yls H.n a → Q (zFx t, IL) (some (.int (if yfo (yll H m) k i a = -1 then -1 else if w = 1 then yfo (yll H m) k i a else ymc (yfo (yll H m) k i a) 7 0 0))) → gX8_league xs (d + 2) Q 24 [.ref 145, .int (nI m), .int w, .int a, .int (nI i)] [] (zFx t, IL)
  | 0, i, a, hi, ha, hQ => by
    have p := y_pw7 hH.n7
    have n7 := hH.n7
    replace hQ : Q (zFx t, IL) (some (.int (if a = -1 then -1 else if w = 1 then a else ymc a 7 0 0))) := hQ
    refine sX8_league_24 t _ _ _ _ IL (zd_f (by rw [hM.mem, y_pow _ hH.n7]) (by omega) (by omega) (zdec (fun z => ?_) (fun z => ?_)))
    · rw [if_pos ((yls_neg n7 ha).mp z)] at hQ
      exact hQ
    · rw [if_neg (fun v => z ((yls_neg n7 ha).mpr v))] at hQ
      refine zdec (fun v => ?_) (fun v => ?_)
      · rw [if_neg (by rw [v]; decide)] at hQ
        exact c_members (kI (hQ))
      · have w1 : w = 1 := by
          apply Int32.toInt_inj.mp
          have a0 : ¬ w.toInt < (0 : Int32).toInt := fun q => hw0 (Int32.lt_iff_toInt_lt.mpr q)
          have a1 : ¬ (1 : Int32).toInt < w.toInt := fun q => hw1 (Int32.lt_iff_toInt_lt.mpr q)
          have a2 : ¬ w.toInt = (0 : Int32).toInt := fun q => v (Int32.toInt_inj.mp q)
          have b0 : (0 : Int32).toInt = 0 := by decide
          have b1 : (1 : Int32).toInt = 1 := by decide
          rw [b0] at a0 a2
          rw [b1] at a1 ⊢
          omega
        rw [if_pos w1] at hQ
        exact hQ
  | k + 1, i, a, hi, ha, hQ => by
    have p := y_pw7 hH.n7
    have n7 := hH.n7
    have ha' := yls_s (m := m) (i := i) ha (by omega)
    unfold yfo at hQ
    have go : ∀ b, b = yll H m i a → gX8_league xs (d + 2) Q 24 [.ref 145, .int (nI m), .int w, .int b, .int (nI i + 1)] [] (zFx t, IL) := fun b hb => by
      rw [nI_1, hb]
      exact l_mleague hH hM hm hw0 hw1 k (i + 1) _ (by omega) ha' hQ
    refine sX8_league_24 t _ _ _ _ IL (zd_t (by rw [hM.mem, y_pow _ hH.n7]) (by omega) (by omega) (zdec (fun g => ?_) (fun g => ?_)))
    · have hb := (zb_1 (nI i) m (by omega)).mp g
      refine c_isEnough hH hM (kI (zbb (fun e => ?_) (fun e => ?_)))
      · exact go a (by unfold yll; rw [hb, e]; rfl)
      · refine (zdec (fun z => go (nI i) (by unfold yll; rw [hb, e, decide_eq_true ((yls_neg n7 ha).mp z)]; rfl)) (fun z => c_members (kI (c_members (kI ?_)))))
        have w := fun v => z ((yls_neg n7 ha).mpr v)
        exact zdec (fun v => go (nI i) (by unfold yll; rw [hb, e, decide_eq_true v, Bool.or_true]; rfl)) (fun v => go a (by unfold yll; rw [hb, e, decide_eq_false v, decide_eq_false w]; rfl))
    · have hb := y_bit (fun q => g ((zb_1 (nI i) m (by omega)).mpr q))
      exact go a (by unfold yll; rw [hb]; rfl)
theorem l_mleagues23 {set a : Int32} (hH : yOK H) (hM : yMH H IL) : ∀ (k i : Nat) (b : Bool), i + k = H.n → (∀ (w3 w4 : Value), gX8_leagues xs (d + 2) Q 4 [.ref 145, .int (if b && yne H set k i then a + 1 else a), .int (set + 1), w3, w4] [] (zFx t, IL)) → gX8_leagues xs (d + 2) Q 23 [.ref 145, .int a, .int set, .int (if b then 1 else 0), .int (nI i)] [] (zFx t, IL)
  | 0, i, b, hi, h4 => by
    have n7 := hH.n7
    unfold yne at h4
    refine sX8_leagues_23 t _ _ _ _ IL (zd_f hM.mem (by omega) (by omega) (c_truth (kI ?_)))
    cases b
    · show gX8_leagues xs (d + 2) Q 4 [.ref 145, .int (a + 0), .int (set + 1), _, _] [] (zFx t, IL)
      rw [Int32.add_zero]
      exact h4 _ _
    · exact h4 _ _
  | k + 1, i, b, hi, h4 => by
    have n7 := hH.n7
    unfold yne at h4
    refine sX8_leagues_23 t _ _ _ _ IL (zd_t hM.mem (by omega) (by omega) ?_)
    rw [nI_1]
    refine zbb (fun eb => ?_) (fun eb => ?_)
    · subst eb
      exact (show gX8_leagues xs (d + 2) Q 23 [.ref 145, .int a, .int set, .int (if false then 1 else 0), .int (nI (i + 1))] [] (zFx t, IL) from l_mleagues23 hH hM k (i + 1) false (by omega) h4)
    · subst eb
      refine (zdec (fun z => ?_) (fun z => ?_))
      · rw [(zb_0 set i (by omega)).mp z] at h4
        exact (show gX8_leagues xs (d + 2) Q 23 [.ref 145, .int a, .int set, .int (if true then 1 else 0), .int (nI (i + 1))] [] (zFx t, IL) from l_mleagues23 hH hM k (i + 1) true (by omega) h4)
      · have hb : bt set i = true := by
          cases e : bt set i
          · exact absurd ((zb_0 set i (by omega)).mpr e) z
          · rfl
        rw [hb] at h4
        refine c_isEnough hH hM (kI (zbb (fun e => ?_) (fun e => ?_)))
        · rw [e] at h4
          exact (show gX8_leagues xs (d + 2) Q 23 [.ref 145, .int a, .int set, .int (if true then 1 else 0), .int (nI (i + 1))] [] (zFx t, IL) from l_mleagues23 hH hM k (i + 1) true (by omega) h4)
        · rw [e] at h4
          exact (show gX8_leagues xs (d + 2) Q 23 [.ref 145, .int a, .int set, .int (if false then 1 else 0), .int (nI (i + 1))] [] (zFx t, IL) from l_mleagues23 hH hM k (i + 1) false (by omega) h4)
theorem l_mleagues (hH : yOK H) (hM : yMH H IL) : ∀ (k i : Nat) (a : Int32) (w3 w4 : Value), i + k = 2 ^ H.n → Q (zFx t, IL) (some (.int (yfo (ylg H) k i a))) → gX8_leagues xs (d + 2) Q 4 [.ref 145, .int a, .int (nI i), w3, w4] [] (zFx t, IL)
  | 0, i, a, w3, w4, hi, hQ => by
    have p := y_pw7 hH.n7
    exact sX8_leagues_4 t _ _ _ _ IL (zd_f (by rw [hM.mem, y_pow _ hH.n7]) (by omega) (by omega) hQ)
  | k + 1, i, a, w3, w4, hi, hQ => by
    have p := y_pw7 hH.n7
    unfold yfo ylg at hQ
    refine sX8_leagues_4 t _ _ _ _ IL (zd_t (by rw [hM.mem, y_pow _ hH.n7]) (by omega) (by omega) (c_isEnough hH hM (kI ?_)))
    refine l_mleagues23 hH hM H.n 0 _ (by omega) (fun w3 w4 => ?_)
    rw [nI_1]
    exact l_mleagues hH hM k (i + 1) _ w3 w4 (by omega) hQ
theorem l_mvetoes (hH : yOK H) (hM : yMH H IL) : ∀ (k i : Nat), i + k = H.n → Q (zFx t, IL) (some (.int (yset (yvet H) H.n))) → gX8_vetoes xs (d + 2) Q 13 [.ref 145, .int ((1 <<< (nI H.n &&& 31)) - 1), .int (yset (yvet H) i), .int (nI i)] [] (zFx t, IL)
  | 0, i, hi, hQ => by
    have n7 := hH.n7
    have e : i = H.n := by omega
    subst e
    exact sX8_vetoes_13 t _ _ _ IL (zd_f hM.mem (by omega) (by omega) hQ)
  | k + 1, i, hi, hQ => by
    have n7 := hH.n7
    have ih := l_mvetoes hH hM k (i + 1) (by omega) hQ
    refine sX8_vetoes_13 t _ _ _ IL (zd_t hM.mem (by omega) (by omega) (c_isEnough hH hM (kI (zbb (fun e => ?_) (fun e => ?_)))))
    · rw [nI_1]
      rw [yset, if_pos (by unfold yvet; rw [e]; rfl)] at ih
      exact c_truth1 ⟨rfl, ih⟩
    · rw [nI_1]
      rw [yset, if_neg (by unfold yvet; rw [e]; decide)] at ih
      refine c_truth0 (kI ?_)
      rw [yshl0 (by omega), yor0]
      exact ih
theorem m_tips {x : Int32} (hH : yOK H) (hM : yMH H IL) (hQ : Q (zFx t, IL) (some (.int (r_tips H x)))) : zcall xs (d + 4) 239 (zFx t, IL) [.ref 145, .int x] Q := by
  have n7 := hH.n7
  unfold r_tips at hQ
  refine sX8_tips t x IL (c_misMember hH hM (fun h => kI (z0 ?_)) (fun m hm e h => kI (z1 ?_)))
  · rw [yisM_n h] at hQ; exact hQ
  · rw [yisM_y h, e, ycl (by omega)] at hQ
    rw [e]
    exact (show gX8_tips xs (d + 3) Q 14 [.ref 145, .int (nI m), .int 0, .int (nI 0)] [] (zFx t, IL) from l_mtips hH hM hm _ 0 0 (by omega) hQ)
theorem m_tilts {x : Int32} (hH : yOK H) (hM : yMH H IL) (hQ : Q (zFx t, IL) (some (.int (r_tilts H x)))) : zcall xs (d + 4) 240 (zFx t, IL) [.ref 145, .int x] Q := by
  have n7 := hH.n7
  unfold r_tilts at hQ
  refine sX8_tilts t x IL (c_misMember hH hM (fun h => kI (z0 ?_)) (fun m hm e h => kI (z1 ?_)))
  · rw [yisM_n h] at hQ; exact hQ
  · rw [yisM_y h, e, ycl (by omega)] at hQ
    rw [e]
    exact (show gX8_tilts xs (d + 3) Q 14 [.ref 145, .int (nI m), .int 0, .int (nI 0)] [] (zFx t, IL) from l_mtilts hH hM hm _ 0 0 (by omega) hQ)
theorem m_league {x w : Int32} (hH : yOK H) (hM : yMH H IL) (hQ : Q (zFx t, IL) (some (.int (r_league H x w)))) : zcall xs (d + 4) 241 (zFx t, IL) [.ref 145, .int x, .int w] Q := by
  have n7 := hH.n7
  unfold r_league at hQ
  refine sX8_league t x w IL (c_misMember hH hM (fun h => kI (z0 ?_)) (fun m hm e h => kI (z1 ?_)))
  · rw [yisM_n h] at hQ; exact hQ
  · rw [yisM_y h, e, ycl (by omega)] at hQ
    rw [e]
    refine c_isIn (fun z => kI (z0 ?_)) (fun z v => kI (z1 ?_))
    · have : (if w < 0 then (-1 : Int32) else if 1 < w then -1 else if yfo (yll H m) (2 ^ H.n) 0 (-1) = -1 then -1 else if w = 1 then yfo (yll H m) (2 ^ H.n) 0 (-1) else ymc (yfo (yll H m) (2 ^ H.n) 0 (-1)) 7 0 0) = -1 := by
        by_cases a : w < 0
        · rw [if_pos a]
        · rw [if_neg a, if_pos (Decidable.byContradiction (fun b => z ⟨a, b⟩))]
      rw [this] at hQ
      exact hQ
    · rw [if_neg z, if_neg v] at hQ
      exact (show gX8_league xs (d + 3) Q 24 [.ref 145, .int (nI m), .int w, .int (-1), .int (nI 0)] [] (zFx t, IL) from l_mleague hH hM hm z v (2 ^ H.n) 0 (-1) (by omega) (Or.inl rfl) hQ)
theorem m_leagues (hH : yOK H) (hM : yMH H IL) (hQ : Q (zFx t, IL) (some (.int (yfo (ylg H) (2 ^ H.n) 0 0)))) : zcall xs (d + 3) 242 (zFx t, IL) [.ref 145] Q :=
  sX8_leagues t IL (l_mleagues hH hM _ 0 0 _ _ (by omega) hQ)
theorem m_vetoes (hH : yOK H) (hM : yMH H IL) (hQ : Q (zFx t, IL) (some (.int (yset (yvet H) H.n)))) : zcall xs (d + 3) 243 (zFx t, IL) [.ref 145] Q := by
  refine sX8_vetoes t IL ?_
  rw [hM.mem]
  exact l_mvetoes hH hM H.n 0 (by omega) hQ
theorem m_strength {S : Nat → Int32} (hH : yOK H) (hM : yMH H IL) (hS : yMS 161 S IL) (hQ : Q (zFx t, IL) (some (.int (yvt H (((1 <<< (nI H.n &&& 31)) - 1) &&& (S 7 ^^^ (-1))))))) : zcall xs (d + 3) 260 (zFx t, IL) [.ref 145] Q := by
  refine sX8_strength t IL ?_
  rw [hM.mem, hS 7 (by decide)]
  exact c_mvotesOf hH hM (kI (hQ))
end MVLOOP
