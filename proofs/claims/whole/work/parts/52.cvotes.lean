/-! tips, tilts, league, leagues, vetoes, strength -/
def yti (H : yH) (m : Nat) (i : Nat) (a : Int32) : Int32 := if yte H m (nI i) then a + yfi (ypc i) * yfi (H.n - 1 - ypc i) else a
def ytl (H : yH) (m : Nat) (i : Nat) (a : Int32) : Int32 := if yte H m (nI i) then a + 1 else a
def yll (H : yH) (m : Nat) (i : Nat) (a : Int32) : Int32 := if bt (nI i) m && (yen H (nI i) && (decide (a = -1) || decide (ymc (nI i) 7 0 0 < ymc a 7 0 0))) then nI i else a
def yne (H : yH) (set : Int32) : Nat → Nat → Bool
  | 0, _ => true
  | k + 1, i => !(bt set i && yen H (set &&& ((1 <<< (nI i &&& 31)) ^^^ (-1)))) && yne H set k (i + 1)
def ylg (H : yH) (i : Nat) (a : Int32) : Int32 := if yen H (nI i) && yne H (nI i) H.n 0 then a + 1 else a
def yvet (H : yH) (m : Nat) : Bool := !yen H ((((1 : Int32) <<< (nI H.n &&& 31)) - 1) &&& (((1 : Int32) <<< (nI m &&& 31)) ^^^ (-1)))
section VLOOP
variable {xs : List Int32} {d : Nat} {Q : zQ} {t u : Bool} {IL : zIL} {H : yH}
theorem yen_i {set : Int32} (z : yvt H set < H.quota) : yen H set = false := by unfold yen; rw [decide_eq_true z]; rfl
theorem yen_j {set : Int32} (z : ¬ yvt H set < H.quota) : yen H set = true := by unfold yen; rw [decide_eq_false z]; rfl
theorem l_tips {m : Nat} (hH : yOK H) (hC : yCH u H IL) (hm : m < H.n) : ∀ (k i : Nat) (a : Int32) (w4 w5 : Value), i + k = 2 ^ H.n → Q (zFx t, IL) (some (.int (yfo (yti H m) k i a))) → gX4_ordersTipped xs (d + 3) Q 4 [.ref (zH u), .int (nI m), .int a, .int (nI i), w4, w5] [] (zFx t, IL)
  | 0, i, a, w4, w5, hi, hQ => by
    have p := y_pw7 hH.n7
    exact sX4_ordersTipped_4 t u _ _ _ _ _ IL (zd_f (by rw [hC.mem, y_pow _ hH.n7]) (by omega) (by omega) hQ)
  | k + 1, i, a, w4, w5, hi, hQ => by
    have p := y_pw7 hH.n7
    have n7 := hH.n7
    unfold yfo yti at hQ
    refine sX4_ordersTipped_4 t u _ _ _ _ _ IL (zd_t (by rw [hC.mem, y_pow _ hH.n7]) (by omega) (by omega) (c_tipsOver hH hC hm (kI (zbb (fun e => ?_) (fun e => ?_)))))
    · rw [e] at hQ
      rw [nI_1]
      exact l_tips hH hC hm k (i + 1) a w4 w5 (by omega) hQ
    · rw [e] at hQ
      have q := (y_pcn i (by omega)).2
      have hb : i.testBit m = false := by
        unfold yte at e
        rw [bt_nI (by omega)] at e
        cases g : i.testBit m
        · rfl
        · rw [g] at e; cases e
      have q2 := y_pcm H.n n7 m hm i (by omega) hb
      refine c_bitCount (kI ?_)
      rw [y_pcb (by omega), hC.mem]
      refine c_max (kI ?_)
      have e1 : zmax 0 (nI H.n - 1 - nI (ypc i)) = nI (H.n - 1 - ypc i) := by
        obtain ⟨r, hr⟩ : ∃ r, H.n = r + 1 + ypc i := ⟨H.n - 1 - ypc i, by omega⟩
        have : nI H.n - 1 - nI (ypc i) = nI r := by
          rw [hr, show r + 1 + ypc i = (r + ypc i) + 1 by omega, nI_pred, ← nI_add, Int32.add_sub_cancel]
        rw [this]
        unfold zmax
        have hr2 : H.n - 1 - ypc i = r := by omega
        rw [hr2]
        split
        · rfl
        · rcases Nat.eq_zero_or_pos r with h | h
          · rw [h]; rfl
          · exact absurd (nI_lt (a := 0) h (by omega)) ‹_›
      have e2 : ∀ r, r ≤ 7 → zmin (nI r) 7 = nI r := by decide
      rw [e1]
      refine c_min (kI ?_)
      rw [e2 _ q]
      refine zix_n (by show ypc i < 8; omega) (by decide) (c_min (kI ?_))
      rw [e2 _ (by omega)]
      refine zix_n (by show H.n - 1 - ypc i < 8; omega) (by decide) ?_
      rw [ycl (by omega), ycl (by omega), y_fac _ q, y_fac _ (by omega), nI_1]
      exact l_tips hH hC hm k (i + 1) _ _ _ (by omega) hQ
theorem l_tilts {m : Nat} (hH : yOK H) (hC : yCH u H IL) (hm : m < H.n) : ∀ (k i : Nat) (a : Int32), i + k = 2 ^ H.n → Q (zFx t, IL) (some (.int (yfo (ytl H m) k i a))) → gX4_setsTilted xs (d + 3) Q 4 [.ref (zH u), .int (nI m), .int a, .int (nI i)] [] (zFx t, IL)
  | 0, i, a, hi, hQ => by
    have p := y_pw7 hH.n7
    exact sX4_setsTilted_4 t u _ _ _ IL (zd_f (by rw [hC.mem, y_pow _ hH.n7]) (by omega) (by omega) hQ)
  | k + 1, i, a, hi, hQ => by
    have p := y_pw7 hH.n7
    unfold yfo ytl at hQ
    refine sX4_setsTilted_4 t u _ _ _ IL (zd_t (by rw [hC.mem, y_pow _ hH.n7]) (by omega) (by omega) (c_tipsOver hH hC hm (kI (zbb (fun e => ?_) (fun e => ?_)))))
    · rw [e] at hQ
      rw [nI_1]
      exact (show gX4_setsTilted xs (d + 3) Q 4 [.ref (zH u), .int (nI m), .int a, .int (nI (i + 1))] [] (zFx t, IL) from l_tilts hH hC hm k (i + 1) a (by omega) hQ)
    · rw [e] at hQ
      rw [nI_1]
      exact (show gX4_setsTilted xs (d + 3) Q 4 [.ref (zH u), .int (nI m), .int (a + 1), .int (nI (i + 1))] [] (zFx t, IL) from l_tilts hH hC hm k (i + 1) (a + 1) (by omega) hQ)
/-- what league holds: none yet, or a set -/
def yls (n : Nat) (a : Int32) : Prop := a = -1 ∨ ∃ j, j < 2 ^ n ∧ a = nI j
theorem yls_s {m i : Nat} {a : Int32} (h : yls H.n a) (hi : i < 2 ^ H.n) : yls H.n (yll H m i a) := by
  unfold yll
  split
  · exact Or.inr ⟨i, hi, rfl⟩
  · exact h
theorem yls_bc {n : Nat} {a : Int32} (hn : n ≤ 7) (h : yls n a) (ha : ¬ a = -1) : ybc a = ymc a 7 0 0 := by
  obtain ⟨j, hj, rfl⟩ := h.resolve_left ha
  have := y_pw7 hn
  exact y_bc_mc j (by omega)
theorem l_league {m : Nat} (hH : yOK H) (hC : yCH u H IL) (hm : m < H.n) : ∀ (k i : Nat) (a : Int32), i + k = 2 ^ H.n → yls H.n a → Q (zFx t, IL) (some (.int (yfo (yll H m) k i a))) → gX4_leastLeague xs (d + 2) Q 4 [.ref (zH u), .int (nI m), .int a, .int (nI i)] [] (zFx t, IL)
  | 0, i, a, hi, ha, hQ => by
    have p := y_pw7 hH.n7
    exact sX4_leastLeague_4 t u _ _ _ IL (zd_f (by rw [hC.mem, y_pow _ hH.n7]) (by omega) (by omega) hQ)
  | k + 1, i, a, hi, ha, hQ => by
    have p := y_pw7 hH.n7
    have n7 := hH.n7
    have ha' := yls_s (m := m) (i := i) ha (by omega)
    unfold yfo at hQ
    have go : ∀ b, b = yll H m i a → gX4_leastLeague xs (d + 2) Q 4 [.ref (zH u), .int (nI m), .int b, .int (nI i + 1)] [] (zFx t, IL) := fun b hb => by
      rw [nI_1, hb]
      exact l_league hH hC hm k (i + 1) _ (by omega) ha' hQ
    refine sX4_leastLeague_4 t u _ _ _ IL (zd_t (by rw [hC.mem, y_pow _ hH.n7]) (by omega) (by omega) (c_has (by omega) (fun hb => kI (z0 ?_)) (fun hb => kI (z1 ?_))))
    · exact go a (by unfold yll; rw [hb]; rfl)
    · refine (c_vt hH hC (kI ?_))
      rw [hC.quota]
      refine zdec (fun z => go a (by unfold yll; rw [hb, yen_i z]; rfl)) (fun z => zdec (fun w => go (nI i) (by unfold yll; rw [hb, yen_j z, decide_eq_true w]; rfl)) (fun w => c_bitCount (kI (c_bitCount (kI ?_)))))
      rw [y_bc_mc i (by omega), yls_bc n7 ha w]
      exact zdec (fun v => go (nI i) (by unfold yll; rw [hb, yen_j z, decide_eq_true v, Bool.or_true]; rfl)) (fun v => go a (by unfold yll; rw [hb, yen_j z, decide_eq_false v, decide_eq_false w]; rfl))
theorem l_needs {set : Int32} (hH : yOK H) (hC : yCH u H IL) : ∀ (k i : Nat), i + k = H.n → Q (zFx t, IL) (some (.int (if yne H set k i then 1 else 0))) → gX4_needsEach xs (d + 2) Q 2 [.ref (zH u), .int set, .int (nI i)] [] (zFx t, IL)
  | 0, i, hi, hQ => by
    have n7 := hH.n7
    exact sX4_needsEach_2 t u _ _ IL (zd_f hC.mem (by omega) (by omega) hQ)
  | k + 1, i, hi, hQ => by
    have n7 := hH.n7
    unfold yne at hQ
    refine sX4_needsEach_2 t u _ _ IL (zd_t hC.mem (by omega) (by omega) (c_has (by omega) (fun hb => kI (z0 ?_)) (fun hb => kI (z1 ?_))))
    · rw [hb] at hQ
      show gX4_needsEach xs (d + 2) Q 2 [.ref (zH u), .int set, .int (nI i + 1)] [] (zFx t, IL)
      rw [nI_1]
      exact l_needs hH hC k (i + 1) (by omega) hQ
    · rw [hb] at hQ
      refine (c_vt hH hC (kI ?_))
      rw [hC.quota]
      refine zdec (fun z => ?_) (fun z => ?_)
      · rw [yen_i z] at hQ
        rw [nI_1]
        exact l_needs hH hC k (i + 1) (by omega) hQ
      · rw [yen_j z] at hQ
        exact hQ
theorem l_countL (hH : yOK H) (hC : yCH u H IL) : ∀ (k i : Nat) (a : Int32), i + k = 2 ^ H.n → Q (zFx t, IL) (some (.int (yfo (ylg H) k i a))) → gX4_countLeagues xs (d + 3) Q 4 [.ref (zH u), .int a, .int (nI i)] [] (zFx t, IL)
  | 0, i, a, hi, hQ => by
    have p := y_pw7 hH.n7
    exact sX4_countLeagues_4 t u _ _ IL (zd_f (by rw [hC.mem, y_pow _ hH.n7]) (by omega) (by omega) hQ)
  | k + 1, i, a, hi, hQ => by
    have p := y_pw7 hH.n7
    unfold yfo ylg at hQ
    have go : ∀ b, Q (zFx t, IL) (some (.int (yfo (ylg H) k (i + 1) b))) → gX4_countLeagues xs (d + 3) Q 4 [.ref (zH u), .int b, .int (nI i + 1)] [] (zFx t, IL) := fun b hb => by
      rw [nI_1]
      exact l_countL hH hC k (i + 1) b (by omega) hb
    refine sX4_countLeagues_4 t u _ _ IL (zd_t (by rw [hC.mem, y_pow _ hH.n7]) (by omega) (by omega) (c_vt hH hC (kI ?_)))
    rw [hC.quota]
    refine zdec (fun z => ?_) (fun z => ?_)
    · rw [yen_i z] at hQ
      exact go a hQ
    · rw [yen_j z] at hQ
      refine sX4_needsEach t u _ IL (l_needs hH hC H.n 0 (by omega) (kI ?_))
      revert hQ
      cases yne H (nI i) H.n 0
      · exact fun hQ => go a hQ
      · exact fun hQ => go (a + 1) hQ
theorem l_vetoes (hH : yOK H) (hC : yCH t H IL) : ∀ (k i : Nat), i + k = H.n → Q (zFx t, IL) (some (.int (yset (yvet H) H.n))) → gX7_vetoes xs (d + 2) Q 4 [.ref 0, .int (yset (yvet H) i), .int (nI i)] [] (zFx t, IL)
  | 0, i, hi, hQ => by
    have n7 := hH.n7
    have e : i = H.n := by omega
    subst e
    exact sX7_vetoes_4 t _ _ IL (zd_f hC.mem (by omega) (by omega) hQ)
  | k + 1, i, hi, hQ => by
    have n7 := hH.n7
    have ih := l_vetoes hH hC k (i + 1) (by omega) hQ
    refine sX7_vetoes_4 t _ _ IL (zd_t hC.mem (by omega) (by omega) (sX4_everyone t t IL (kI ?_)))
    rw [hC.mem]
    refine c_vt hH hC (kI ?_)
    rw [hC.quota, nI_1]
    refine zdec (fun z => ?_) (fun z => ?_)
    · rw [yset, if_pos (by unfold yvet; rw [yen_i z]; rfl)] at ih
      exact ih
    · rw [yset, if_neg (by unfold yvet; rw [yen_j z]; decide)] at ih
      exact ih
def r_tips (H : yH) (x : Int32) : Int32 := if x < 0 then -1 else if x < nI H.n then yfo (yti H x.toNatClampNeg) (2 ^ H.n) 0 0 else -1
def r_tilts (H : yH) (x : Int32) : Int32 := if x < 0 then -1 else if x < nI H.n then yfo (ytl H x.toNatClampNeg) (2 ^ H.n) 0 0 else -1
def r_league (H : yH) (x w : Int32) : Int32 := if x < 0 then -1 else if x < nI H.n then (if w < 0 then -1 else if 1 < w then -1 else if yfo (yll H x.toNatClampNeg) (2 ^ H.n) 0 (-1) = -1 then -1 else if w = 1 then yfo (yll H x.toNatClampNeg) (2 ^ H.n) 0 (-1) else ymc (yfo (yll H x.toNatClampNeg) (2 ^ H.n) 0 (-1)) 7 0 0) else -1
theorem yisM_n {n : Nat} {x : Int32} {a b : Int32} (h : ¬ yisM n x) : (if x < 0 then a else if x < nI n then b else a) = a := by
  by_cases z : x < 0
  · rw [if_pos z]
  · rw [if_neg z, if_neg (fun w => h ⟨z, w⟩)]
theorem yisM_y {n : Nat} {x : Int32} {a b : Int32} (h : yisM n x) : (if x < 0 then a else if x < nI n then b else a) = b := by
  rw [if_neg h.1, if_pos h.2]
theorem c_tips {x : Int32} (hH : yOK H) (hC : yCH t H IL) (hQ : Q (zFx t, IL) (some (.int (r_tips H x)))) : zcall xs (d + 5) 106 (zFx t, IL) [.ref 0, .int x] Q := by
  have n7 := hH.n7
  unfold r_tips at hQ
  refine sX7_tips t x IL (c_isMember hH hC (fun h => kI (z0 ?_)) (fun m hm e h => kI (z1 ?_)))
  · rw [yisM_n h] at hQ; exact hQ
  · rw [yisM_y h, e, ycl (by omega)] at hQ
    rw [e]
    exact sX4_ordersTipped t t _ IL (l_tips hH hC hm _ 0 0 _ _ (by omega) (kI (hQ)))
theorem c_tilts {x : Int32} (hH : yOK H) (hC : yCH t H IL) (hQ : Q (zFx t, IL) (some (.int (r_tilts H x)))) : zcall xs (d + 5) 116 (zFx t, IL) [.ref 0, .int x] Q := by
  have n7 := hH.n7
  unfold r_tilts at hQ
  refine sX7_tilts t x IL (c_isMember hH hC (fun h => kI (z0 ?_)) (fun m hm e h => kI (z1 ?_)))
  · rw [yisM_n h] at hQ; exact hQ
  · rw [yisM_y h, e, ycl (by omega)] at hQ
    rw [e]
    exact sX4_setsTilted t t _ IL (l_tilts hH hC hm _ 0 0 (by omega) (kI (hQ)))
theorem yls_all {m : Nat} : yls H.n (yfo (yll H m) (2 ^ H.n) 0 (-1)) := yfo_inv (fun _ a => yls H.n a) (2 ^ H.n) 0 (-1) (Or.inl rfl) (fun j b _ hj hb => yls_s hb (by omega))
theorem c_league {x w : Int32} (hH : yOK H) (hC : yCH t H IL) (hQ : Q (zFx t, IL) (some (.int (r_league H x w)))) : zcall xs (d + 5) 107 (zFx t, IL) [.ref 0, .int x, .int w] Q := by
  have n7 := hH.n7
  unfold r_league at hQ
  refine sX7_league t x w IL (c_isMember hH hC (fun h => kI (z0 ?_)) (fun m hm e h => kI (z1 ?_)))
  · rw [yisM_n h] at hQ; exact hQ
  · rw [yisM_y h, e, ycl (by omega)] at hQ
    rw [e]
    show zif2 _ _ _
    have ha := yls_all (H := H) (m := m)
    refine zdec (fun z => ?_) (fun z => ?_)
    · rw [if_pos z] at hQ; exact hQ
    · rw [if_neg z] at hQ
      refine zdec (fun y => ?_) (fun y => ?_)
      · rw [if_pos y] at hQ; exact hQ
      · rw [if_neg y] at hQ
        refine sX4_leastLeague t t _ IL (l_league hH hC hm (2 ^ H.n) 0 (-1) (by omega) (Or.inl rfl) (kI ?_))
        refine zdec (fun v => ?_) (fun v => ?_)
        · rw [if_pos v] at hQ
          rw [v]
          exact hQ
        · rw [if_neg v] at hQ
          refine zdec (fun q => ?_) (fun q => c_bitCount (kI ?_))
          · rw [if_pos q] at hQ; exact hQ
          · rw [if_neg q] at hQ
            rw [yls_bc n7 ha v]
            exact hQ
theorem c_leagues (hH : yOK H) (hC : yCH t H IL) (hQ : Q (zFx t, IL) (some (.int (yfo (ylg H) (2 ^ H.n) 0 0)))) : zcall xs (d + 5) 117 (zFx t, IL) [.ref 0] Q :=
  sX7_leagues t IL (sX4_countLeagues t t IL (l_countL hH hC _ 0 0 (by omega) (kI (hQ))))
theorem c_vetoes (hH : yOK H) (hC : yCH t H IL) (hQ : Q (zFx t, IL) (some (.int (yset (yvet H) H.n)))) : zcall xs (d + 3) 124 (zFx t, IL) [.ref 0] Q :=
  sX7_vetoes t IL (l_vetoes hH hC H.n 0 (by omega) hQ)
theorem c_strength {S : Nat → Int32} (hH : yOK H) (hC : yCH t H IL) (hS : yCS 22 S IL) (hQ : Q (zFx t, IL) (some (.int (yvt H (((1 <<< (nI H.n &&& 31)) - 1) &&& (S 7 ^^^ (-1))))))) : zcall xs (d + 3) 122 (zFx t, IL) [.ref 0] Q := by
  refine sX7_strength t IL (sX4_everyone t t IL (kI ?_))
  rw [hC.mem, hS.out]
  exact c_vt hH hC (kI (hQ))
end VLOOP
