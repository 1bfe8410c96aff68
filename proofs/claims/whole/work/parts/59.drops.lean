/-! drops: what is reckoned, and the class's side -/
def ybv (H : yH) (S : Nat → Int32) (m : Nat) (q fa no : Int32) : Int32 := ynw no (zwv H.ss q (H.mi m) (H.vo m) no fa (yre S))
def yNo (S : Nat → Int32) (m : Nat) : Nat := (S m).toNatClampNeg
def ypS (H : yH) (S : Nat → Int32) (m : Nat) (q fa : Int32) (e : Nat) : Bool := decide (ybv H S m q fa (nI (yNo S m - e)) < H.cock)
def ypB (H : yH) (S : Nat → Int32) (m : Nat) (q fa : Int32) (e : Nat) : Bool := decide (2 * ybv H S m q fa (nI (yNo S m - e)) < H.cock)
def yfN (p : Nat → Bool) : Nat → Nat → Nat
  | 0, _ => 1000000
  | k + 1, i => if p i then i else yfN p k (i + 1)
def yen1 (A : Nat) : Int32 := if A < 1000000 then nI A else -1
def ytS (H : yH) (S : Nat → Int32) (q fa : Int32) (m : Nat) : Nat := if bt (S 7) m then yfN (ypS H S m q fa) (yNo S m + 1) 0 else 0
def ytB (H : yH) (S : Nat → Int32) (q fa : Int32) (m : Nat) : Nat := if bt (S 7) m then yfN (ypB H S m q fa) (yNo S m + 1) 0 else 0
def yco1 (H : yH) (S : Nat → Int32) (q fa : Int32) (i m a : Nat) : Nat := a + (if i.testBit m then ytB H S q fa m else ytS H S q fa m)
def yco (H : yH) (S : Nat → Int32) (q fa : Int32) (i : Nat) : Nat := yfo (yco1 H S q fa i) H.n 0 0
def ymf (P : Nat → Bool) (c : Nat → Nat) (i A : Nat) : Nat := if P i then min A (c i) else A
def yin1 (H : yH) (S : Nat → Int32) : Int32 := ((1 <<< (nI H.n &&& 31)) - 1) &&& (S 7 ^^^ (-1))
def yPc (H : yH) (S : Nat → Int32) (i : Nat) : Bool := decide (nI i &&& (S 7 ^^^ (-1)) = 0) && yen H (nI i ||| yin1 H S)
def yAm (H : yH) (S : Nat → Int32) (q fa : Int32) : Nat := yfo (ymf (fun i => yen H (nI i)) (yco H S q fa)) (2 ^ H.n) 0 1000000
def yAc (H : yH) (S : Nat → Int32) (q fa : Int32) : Nat := yfo (ymf (yPc H S) (yco H S q fa)) (2 ^ H.n) 0 1000000
theorem yfN_lt {p : Nat → Bool} : ∀ (k i : Nat), yfN p k i = 1000000 ∨ yfN p k i < i + k
  | 0, _ => Or.inl rfl
  | k + 1, i => by
    unfold yfN
    split
    · exact Or.inr (by omega)
    · rcases yfN_lt (p := p) k (i + 1) with h | h
      · exact Or.inl h
      · exact Or.inr (by omega)
theorem yfN_mono {p r : Nat → Bool} (h : ∀ j, r j = true → p j = true) : ∀ (k i : Nat), i + k ≤ 1000000 → yfN p k i ≤ yfN r k i
  | 0, _, _ => Nat.le_refl _
  | k + 1, i, hk => by
    unfold yfN
    by_cases e : r i = true
    · rw [if_pos e, if_pos (h i e)]
      exact Nat.le_refl _
    · rw [if_neg e]
      split
      · rcases yfN_lt (p := r) k (i + 1) with q | q
        · omega
        · have : ∀ (k i : Nat), i + k ≤ 1000000 → i ≤ yfN r k i := by
            intro k
            induction k with
            | zero => intro i hi; unfold yfN; omega
            | succ k ih =>
              intro i hi
              unfold yfN
              split
              · exact Nat.le_refl _
              · have := ih (i + 1) (by omega); omega
          have := this k (i + 1) (by omega)
          omega
      · exact yfN_mono h k (i + 1) (by omega)
theorem ymf_le {P : Nat → Bool} {c : Nat → Nat} : ∀ (k i a : Nat), yfo (ymf P c) k i a ≤ a
  | 0, _, _ => Nat.le_refl _
  | k + 1, i, a => by
    unfold yfo
    refine Nat.le_trans (ymf_le k (i + 1) _) ?_
    unfold ymf
    split
    · exact Nat.min_le_left _ _
    · exact Nat.le_refl _
theorem ymf_le2 {P : Nat → Bool} {c : Nat → Nat} : ∀ (k i a j : Nat), i ≤ j → j < i + k → P j = true → yfo (ymf P c) k i a ≤ c j
  | 0, _, _, _, h1, h2, _ => by omega
  | k + 1, i, a, j, h1, h2, hp => by
    unfold yfo
    by_cases e : j = i
    · subst e
      refine Nat.le_trans (ymf_le k (j + 1) _) ?_
      unfold ymf
      rw [if_pos hp]
      exact Nat.min_le_right _ _
    · exact ymf_le2 k (i + 1) _ j (by omega) (by omega) hp
theorem ymf_ex {P : Nat → Bool} {c : Nat → Nat} : ∀ (k i a : Nat), yfo (ymf P c) k i a = a ∨ ∃ j, i ≤ j ∧ j < i + k ∧ P j = true ∧ yfo (ymf P c) k i a = c j
  | 0, _, _ => Or.inl rfl
  | k + 1, i, a => by
    unfold yfo
    rcases ymf_ex (P := P) (c := c) k (i + 1) (ymf P c i a) with h | ⟨j, h1, h2, h3, h4⟩
    · by_cases hp : P i = true
      · have e : ymf P c i a = min a (c i) := by unfold ymf; rw [if_pos hp]
        rw [h, e]
        rcases Nat.le_total a (c i) with q | q
        · left; exact Nat.min_eq_left q
        · right; exact ⟨i, by omega, by omega, hp, Nat.min_eq_right q⟩
      · have e : ymf P c i a = a := by unfold ymf; rw [if_neg hp]
        rw [h, e]
        exact Or.inl rfl
    · exact Or.inr ⟨j, by omega, by omega, h3, h4⟩
theorem zvs_mono {vo : Nat → Int32} {s s' : Int32} {n : Nat} (hv : ∀ j, j < n → yin (vo j) 0 9) (hn : n ≤ 7) (hs : ∀ j, j < n → bt s j = true → bt s' j = true) : ∀ (k i : Nat) (a a' : Int32), i + k = n → 0 ≤ a.toInt → a.toInt ≤ a'.toInt → a'.toInt ≤ 9 * i → (zvs vo s k i a).toInt ≤ (zvs vo s' k i a').toInt
  | 0, i, a, a', hi, h0, h1, h2 => h1
  | k + 1, i, a, a', hi, h0, h1, h2 => by
    unfold zvs
    have v := hv i (by omega)
    have v1 := v.1
    have v2 := v.2
    have ea : (a + vo i).toInt = a.toInt + (vo i).toInt := i_add (by omega) (by omega) (by omega) (by omega)
    have ea' : (a' + vo i).toInt = a'.toInt + (vo i).toInt := i_add (by omega) (by omega) (by omega) (by omega)
    by_cases b : bt s i = true
    · rw [if_pos b, if_pos (hs i (by omega) b)]
      exact zvs_mono hv hn hs k (i + 1) _ _ (by omega) (by omega) (by omega) (by omega)
    · rw [if_neg b]
      split
      · exact zvs_mono hv hn hs k (i + 1) _ _ (by omega) (by omega) (by omega) (by omega)
      · exact zvs_mono hv hn hs k (i + 1) _ _ (by omega) (by omega) (by omega) (by omega)
theorem yen_mono {H : yH} (hH : yOK H) {s s' : Int32} (hs : ∀ j, j < H.n → bt s j = true → bt s' j = true) (h : yen H s = true) : yen H s' = true := by
  have m : (yvt H s).toInt ≤ (yvt H s').toInt := zvs_mono hH.vo hH.n7 hs H.n 0 0 0 (by omega) (by decide) (by decide) (by decide)
  apply yen_j
  intro z
  have h' : ¬ yvt H s < H.quota := fun w => by rw [yen_i w] at h; cases h
  rw [Int32.lt_iff_toInt_lt] at z h'
  omega
theorem yco_congr {H : yH} {S : Nat → Int32} {q fa : Int32} {i j : Nat} (h : ∀ m, m < H.n → bt (S 7) m = true → i.testBit m = j.testBit m) : yco H S q fa i = yco H S q fa j := yfo_congr _ _ _ (fun m b _ hm => by
  unfold yco1
  by_cases o : bt (S 7) m = true
  · rw [h m (by omega) o]
  · have z1 : ytB H S q fa m = 0 := by unfold ytB; rw [if_neg o]
    have z2 : ytS H S q fa m = 0 := by unfold ytS; rw [if_neg o]
    rw [z1, z2]
    split <;> split <;> rfl)
theorem b_yin1 {H : yH} (hn : H.n ≤ 7) (S : Nat → Int32) {i : Nat} (hi : i < 32) : bt (yin1 H S) i = (decide (i < H.n) && !bt (S 7) i) := b_nout hn _ hi
theorem y_sub {x y : Int32} : (x &&& (y ^^^ (-1)) = 0) ↔ ∀ j, j < 32 → bt x j = true → bt y j = true := by
  constructor
  · intro h j hj hx
    have : bt (x &&& (y ^^^ (-1))) j = false := by rw [h, b_0]
    rw [b_and, b_xor, b_m1 j hj, hx] at this
    cases e : bt y j
    · rw [e] at this; cases this
    · rfl
  · intro h
    refine b_ext (fun j hj => ?_)
    rw [b_and, b_xor, b_m1 j hj, b_0]
    cases e : bt x j
    · rfl
    · rw [h j hj e]; rfl
theorem yAc_Am {H : yH} {S : Nat → Int32} (hH : yOK H) (hB : ySB H S) (q fa : Int32) : yAc H S q fa = yAm H S q fa := by
  have n7 := hH.n7
  obtain ⟨o, ho, eo⟩ := y_small (x := S 7) (w := H.n) hB.out
  have bo : ∀ j, j < 32 → bt (S 7) j = o.testBit j := fun j hj => by rw [eo, bt_nI hj]
  apply Nat.le_antisymm
  · rcases ymf_ex (P := fun i => yen H (nI i)) (c := yco H S q fa) (2 ^ H.n) 0 1000000 with h | ⟨T, _, hT, hp, he⟩
    · show yAc H S q fa ≤ yfo _ _ _ _
      rw [h]
      exact ymf_le _ _ _
    · show yAc H S q fa ≤ yfo _ _ _ _
      rw [he]
      have hlt : T &&& o < 2 ^ H.n := Nat.lt_of_le_of_lt Nat.and_le_left (by omega)
      have e2 : yco H S q fa T = yco H S q fa (T &&& o) := yco_congr (fun m hm om => by
        rw [bo m (by omega)] at om
        rw [Nat.testBit_and, om, Bool.and_true])
      rw [e2]
      refine ymf_le2 (P := yPc H S) (2 ^ H.n) 0 1000000 (T &&& o) (by omega) (by omega) ?_
      unfold yPc
      rw [decide_eq_true (y_sub.mpr (fun j hj hx => by
        rw [bt_nI hj, Nat.testBit_and] at hx
        rw [bo j hj]
        exact (Bool.and_eq_true_iff.mp hx).2)), Bool.true_and]
      refine yen_mono hH (fun j hj hx => ?_) hp
      rw [bt_nI (by omega)] at hx
      rw [b_or, bt_nI (by omega), Nat.testBit_and, hx, b_yin1 n7 S (by omega), bo j (by omega), decide_eq_true hj]
      cases o.testBit j <;> rfl
  · rcases ymf_ex (P := yPc H S) (c := yco H S q fa) (2 ^ H.n) 0 1000000 with h | ⟨B, _, hBl, hp, he⟩
    · show yAm H S q fa ≤ yfo _ _ _ _
      rw [h]
      exact ymf_le _ _ _
    · show yAm H S q fa ≤ yfo _ _ _ _
      rw [he]
      unfold yPc at hp
      have hp2 := (Bool.and_eq_true_iff.mp hp).2
      obtain ⟨T, hT, eT⟩ := y_small (x := nI B ||| yin1 H S) (w := H.n) (fun i hi => by
        rcases Nat.lt_or_ge i 32 with g | g
        · rw [b_or, bt_lt (by omega) hi, b_yin1 n7 S g, decide_eq_false (by omega)]; rfl
        · exact b_big g)
      have e2 : yco H S q fa B = yco H S q fa T := yco_congr (fun m hm om => by
        have := bt_nI (i := T) (j := m) (by omega)
        rw [← this, ← eT, b_or, bt_nI (by omega), b_yin1 n7 S (by omega), om]
        simp)
      rw [e2]
      refine ymf_le2 (P := fun i => yen H (nI i)) (2 ^ H.n) 0 1000000 T (by omega) (by omega) ?_
      show yen H (nI T) = true
      rw [← eT]
      exact hp2
/-- a sum is at least each of its summands -/
theorem yco_ge {H : yH} {S : Nat → Int32} {q fa : Int32} {i m : Nat} (hm : m < H.n) : (if i.testBit m then ytB H S q fa m else ytS H S q fa m) ≤ yco H S q fa i := by
  have up : ∀ (k j a : Nat), a ≤ yfo (yco1 H S q fa i) k j a := by
    intro k
    induction k with
    | zero => intro j a; exact Nat.le_refl _
    | succ k ih =>
      intro j a
      unfold yfo
      refine Nat.le_trans ?_ (ih (j + 1) _)
      unfold yco1
      omega
  have go : ∀ (k j a : Nat), j ≤ m → m < j + k → (if i.testBit m then ytB H S q fa m else ytS H S q fa m) ≤ yfo (yco1 H S q fa i) k j a := by
    intro k
    induction k with
    | zero => intro j a h1 h2; omega
    | succ k ih =>
      intro j a h1 h2
      unfold yfo
      by_cases e : j = m
      · subst e
        refine Nat.le_trans ?_ (up k (j + 1) _)
        unfold yco1
        omega
      · exact ih (j + 1) _ (by omega) (by omega)
  exact go H.n 0 0 (by omega) (by omega)
theorem ybv_i {H : yH} {S : Nat → Int32} {m : Nat} {q fa no : Int32} (h : yin no 0 99) : 0 ≤ (ybv H S m q fa no).toInt ∧ (ybv H S m q fa no).toInt ≤ 108 := by
  unfold ybv
  rw [ynw_i h]
  have := h.1
  have := h.2
  omega
theorem y_dbl {x : Int32} (h0 : 0 ≤ x.toInt) (h1 : x.toInt ≤ 108) : (2 * x).toInt = 2 * x.toInt := by
  rw [Int32.toInt_mul]
  have : (2 : Int32).toInt = 2 := by decide
  rw [this]
  exact Int.bmod_eq_of_le (by omega) (by omega)
theorem yNo_le {H : yH} {S : Nat → Int32} (hB : ySB H S) {m : Nat} (hm : m < 7) : yNo S m ≤ 99 ∧ S m = nI (yNo S m) := by
  have h := hB.no m hm
  have h1 := h.1
  have h2 := h.2
  have e : S m = nI (S m).toInt.toNat := by
    apply Int32.toInt_inj.mp
    rw [nI_toInt (by omega)]
    omega
  have e2 : yNo S m = (S m).toInt.toNat := rfl
  exact ⟨by omega, by rw [e2]; exact e⟩
theorem yin_nI {n : Nat} (h : n ≤ 99) : yin (nI n) 0 99 := by
  unfold yin
  rw [nI_toInt (by omega)]
  omega
/-- who is FOR it does not go off -/
theorem yB_S {H : yH} {S : Nat → Int32} (hH : yOK H) (hB : ySB H S) {m : Nat} (hm : m < 7) {q fa : Int32} {e : Nat} (h : ypB H S m q fa e = true) : ypS H S m q fa e = true := by
  unfold ypB at h
  unfold ypS
  have n99 := (yNo_le hB hm).1
  have b := ybv_i (H := H) (S := S) (m := m) (q := q) (fa := fa) (yin_nI (n := yNo S m - e) (by omega))
  have c := hH.cock
  have c1 := c.1
  have h' := Int32.lt_iff_toInt_lt.mp (of_decide_eq_true h)
  rw [y_dbl b.1 b.2] at h'
  exact decide_eq_true (Int32.lt_iff_toInt_lt.mpr (by omega))
theorem yS_B {H : yH} {S : Nat → Int32} (hH : yOK H) (hB : ySB H S) {m : Nat} (hm : m < 7) {q fa : Int32} : ytS H S q fa m ≤ ytB H S q fa m := by
  unfold ytS ytB
  have n99 := (yNo_le hB hm).1
  split
  · exact yfN_mono (fun j hj => yB_S hH hB hm hj) _ _ (by omega)
  · exact Nat.le_refl _
theorem ytS_le {H : yH} {S : Nat → Int32} (hB : ySB H S) {m : Nat} (hm : m < 7) {q fa : Int32} : ytS H S q fa m = 1000000 ∨ ytS H S q fa m ≤ 99 := by
  unfold ytS
  have n99 := (yNo_le hB hm).1
  split
  · rcases yfN_lt (p := ypS H S m q fa) (yNo S m + 1) 0 with h | h
    · exact Or.inl h
    · exact Or.inr (by omega)
  · exact Or.inr (by omega)
theorem ytB_le {H : yH} {S : Nat → Int32} (hB : ySB H S) {m : Nat} (hm : m < 7) {q fa : Int32} : ytB H S q fa m = 1000000 ∨ ytB H S q fa m ≤ 99 := by
  unfold ytB
  have n99 := (yNo_le hB hm).1
  split
  · rcases yfN_lt (p := ypB H S m q fa) (yNo S m + 1) 0 with h | h
    · exact Or.inl h
    · exact Or.inr (by omega)
  · exact Or.inr (by omega)
/-- if one goes off anyhow there is no way -/
theorem yAm_none {H : yH} {S : Nat → Int32} (hH : yOK H) (hB : ySB H S) {q fa : Int32} {m : Nat} (hm : m < H.n) (h : ytS H S q fa m = 1000000) : yAm H S q fa = 1000000 := by
  have n7 := hH.n7
  have hb : ytB H S q fa m = 1000000 := by
    have := yS_B hH hB (m := m) (by omega) (q := q) (fa := fa)
    rcases ytB_le hB (m := m) (by omega) (q := q) (fa := fa) with e | e
    · exact e
    · omega
  apply Nat.le_antisymm
  · exact ymf_le _ _ _
  · rcases ymf_ex (P := fun i => yen H (nI i)) (c := yco H S q fa) (2 ^ H.n) 0 1000000 with e | ⟨T, _, _, _, he⟩
    · show _ ≤ yfo _ _ _ _
      rw [e]
      exact Nat.le_refl _
    · show _ ≤ yfo _ _ _ _
      rw [he]
      have := yco_ge (H := H) (S := S) (q := q) (fa := fa) (i := T) hm
      rw [h, hb] at this
      revert this
      split <;> exact id
/-- one counter on its way down: none yet, or found -/
def yiv (p : Nat → Bool) (T k e : Nat) (v : Int32) : Prop := (v = -1 ∧ T = yfN p k e) ∨ (v = nI T ∧ T ≤ 99)
theorem yiv_t {p : Nat → Bool} {T k e : Nat} {v : Int32} (h : yiv p T (k + 1) e v) (hv : v = -1) (he : e ≤ 99) (hp : p e = true) : yiv p T k (e + 1) (nI e) := by
  rcases h with ⟨_, h⟩ | ⟨h, ht⟩
  · unfold yfN at h
    rw [if_pos hp] at h
    exact Or.inr ⟨by rw [h], by omega⟩
  · exact absurd (show (nI T) < 0 by rw [← h, hv]; decide) (nI_pos (by omega))
theorem yiv_o {p : Nat → Bool} {T k e : Nat} {v : Int32} (h : yiv p T (k + 1) e v) (hv : ¬ v = -1) : yiv p T k (e + 1) v := Or.inr (h.resolve_left (fun z => hv z.1))
theorem yiv_f {p : Nat → Bool} {T k e : Nat} {v : Int32} (h : yiv p T (k + 1) e v) (hp : p e = false) : yiv p T k (e + 1) v := by
  rcases h with ⟨h1, h⟩ | h
  · unfold yfN at h
    rw [hp] at h
    exact Or.inl ⟨h1, h⟩
  · exact Or.inr h
theorem yiv_e {p : Nat → Bool} {T e : Nat} {v : Int32} (h : yiv p T 0 e v) : v = yen1 T := by
  rcases h with ⟨h1, h⟩ | ⟨h1, h2⟩
  · rw [h1, h]; rfl
  · unfold yen1
    rw [if_pos (by omega), h1]
section DROPS
variable {xs : List Int32} {d : Nat} {Q : zQ} {t : Bool} {IL IL0 : zIL} {H : yH} {fa q : Int32} {S : Nat → Int32}
def ydf (t : Bool) : List Nat := 137 :: 138 :: ytf t
theorem ydf_t {A B : zIL} (h : zfr (ytf t) A B) : zfr (ydf t) A B := zfr_le h (fun c hc => List.mem_cons_of_mem _ (List.mem_cons_of_mem _ hc))
theorem ydf_1 {j : Nat} {v : Int32} : zfr (ydf t) IL (zwi IL 137 j v) := zfr_wi (by unfold ydf; simp)
theorem ydf_2 {j : Nat} {v : Int32} : zfr (ydf t) IL (zwi IL 138 j v) := zfr_wi (by unfold ydf; simp)
theorem yqc_df {A B : zIL} (h : zfr (ydf t) A B) : yqc A B := yqc_zf h (fun c hc => by
  unfold ydf ytf at hc
  simp only [List.mem_cons, List.not_mem_nil, or_false] at hc
  cases t
  · have : zH false = 6 := rfl
    rw [this] at hc
    rcases hc with rfl | rfl | rfl | rfl | rfl | rfl <;> rfl
  · have : zH true = 14 := rfl
    rw [this] at hc
    rcases hc with rfl | rfl | rfl | rfl | rfl | rfl <;> rfl)
theorem yCH.df {A B : zIL} (h : yCH t H A) (f : zfr (ydf t) A B) : yCH t H B := h.qc (yqc_df f)
theorem yCS.df {A B : zIL} (h : yCS 22 S A) (f : zfr (ydf t) A B) : yCS 22 S B := h.qc (yqc_df f) rfl rfl
theorem ytf_137 {A B : zIL} (f : zfr (ytf t) A B) : B.1 137 = A.1 137 ∧ B.1 138 = A.1 138 := by
  have := zH_le t
  constructor
  · exact f.1 _ (by unfold ytf; simp only [List.mem_cons, List.not_mem_nil, or_false]; omega)
  · exact f.1 _ (by unfold ytf; simp only [List.mem_cons, List.not_mem_nil, or_false]; omega)
theorem l_cd52 {m : Nat} (hH : yOK H) (hC : yCH t H IL0) (hS : yCS 22 S IL0) (hB : ySB H S) (hm : m < H.n) (ho : bt (S 7) m = true) (hfa : fa = 0 ∨ fa = 1) (hQ0 : ∀ IL', zfr (ydf t) IL0 IL' → ytS H S q fa m = 1000000 → Q (zFx t, IL') (some (.int 0))) (hQ1 : ∀ IL' w4 w5 w6, zfr (ydf t) IL0 IL' → ytS H S q fa m ≤ 99 → IL'.1 137 m = yen1 (ytS H S q fa m) → IL'.1 138 m = yen1 (ytB H S q fa m) → (∀ j, j ≠ m → IL'.1 137 j = IL0.1 137 j ∧ IL'.1 138 j = IL0.1 138 j) → gX7_countDrops xs (d + 4) Q 2 [.ref 0, .int q, .int fa, .int (nI (m + 1)), w4, w5, w6] [] (zFx t, IL')) : ∀ (k e : Nat) (IL : zIL) (x : Int32) (w5 w6 : Value), e + k = yNo S m + 1 → x = nI k - 1 → zfr (ydf t) IL0 IL → yiv (ypS H S m q fa) (ytS H S q fa m) k e (IL.1 137 m) → yiv (ypB H S m q fa) (ytB H S q fa m) k e (IL.1 138 m) → (∀ j, j ≠ m → IL.1 137 j = IL0.1 137 j ∧ IL.1 138 j = IL0.1 138 j) → gX7_countDrops xs (d + 4) Q 52 [.ref 0, .int q, .int fa, .int (nI m), .int x, w5, w6] [] (zFx t, IL)
  | 0, e, IL, x, w5, w6, he, hx, fr, i1, i2, hj => by
    have n7 := hH.n7
    have e1 := yiv_e i1
    have e2 := yiv_e i2
    refine sX7_countDrops_52 t _ _ _ _ _ _ IL (zdec (fun _ => zix_n (by omega) (by omega) ?_) (fun z => absurd (by rw [hx]; decide) z))
    rw [ycl (by omega), nI_1, e1]
    rcases ytS_le hB (m := m) (by omega) (q := q) (fa := fa) with h | h
    · refine zdec (fun _ => hQ0 IL fr h) (fun z => absurd ?_ z)
      rw [h]
      rfl
    · refine zdec (fun z => absurd z ?_) (fun _ => hQ1 IL _ _ _ fr h e1 e2 hj)
      unfold yen1
      rw [if_pos (by omega)]
      intro z
      exact absurd (show (nI (ytS H S q fa m)) < 0 by rw [z]; decide) (nI_pos (by omega))
  | k + 1, e, IL, x, w5, w6, he, hx, fr, i1, i2, hj => by
    have n7 := hH.n7
    have nl := yNo_le hB (m := m) (by omega)
    have hCI := hC.df fr
    have hSI := hS.df fr
    rw [nI_pred] at hx
    subst hx
    have ek : yNo S m - e = k := by omega
    have e23 : IL.1 23 m - nI k = nI e := by
      rw [show IL.1 23 m = S m from hSI.no m (by omega), nl.2, show yNo S m = e + k by omega, ← nI_add, Int32.add_sub_cancel]
    refine sX7_countDrops_52 t _ _ _ _ _ _ IL (zdec (fun z => absurd z (nI_pos (by omega))) (fun _ => zix_n (by omega) (by omega) ?_))
    rw [ycl (by omega), e23]
    refine c_windNow hH hCI hSI hB hm hfa (fun IL1 f1 => kI ?_)
    have g := zfr_tr fr (ydf_t f1)
    have o1 := (ytf_137 f1).1
    have o2 := (ytf_137 f1).2
    have hC1 := hC.df g
    have ev : nI k + ywd H S m q (nI k) fa = ybv H S m q fa (nI k) := rfl
    rw [ev, hC1.cock, o1, o2]
    have on : ∀ (IL' : zIL) (w5 w6 : Value), zfr (ydf t) IL0 IL' → yiv (ypS H S m q fa) (ytS H S q fa m) k (e + 1) (IL'.1 137 m) → yiv (ypB H S m q fa) (ytB H S q fa m) k (e + 1) (IL'.1 138 m) → (∀ j, j ≠ m → IL'.1 137 j = IL0.1 137 j ∧ IL'.1 138 j = IL0.1 138 j) → gX7_countDrops xs (d + 4) Q 52 [.ref 0, .int q, .int fa, .int (nI m), .int (nI k + (-1)), w5, w6] [] (zFx t, IL') := fun IL' w5 w6 f a1 a2 a3 =>
      l_cd52 hH hC hS hB hm ho hfa hQ0 hQ1 k (e + 1) IL' _ w5 w6 (by omega) (Int32.sub_eq_add_neg _ _).symm f a1 a2 a3
    have pS : ∀ b, decide (ybv H S m q fa (nI k) < H.cock) = b → ypS H S m q fa e = b := fun b h => by unfold ypS; rw [ek]; exact h
    have pB : ∀ b, decide (2 * ybv H S m q fa (nI k) < H.cock) = b → ypB H S m q fa e = b := fun b h => by unfold ypB; rw [ek]; exact h
    have e99 : e ≤ 99 := by omega
    have jA : ∀ j, j ≠ m → IL1.1 137 j = IL0.1 137 j ∧ IL1.1 138 j = IL0.1 138 j := fun j h => by rw [o1, o2]; exact hj j h
    have hw : ∀ v, (zwi IL1 137 m v).1 (zH t) = IL1.1 (zH t) := fun v => zwi_ne (by have := zH_le t; omega)
    have hw2 : ∀ v, (zwi IL1 137 m v).1 138 = IL1.1 138 := fun v => zwi_ne (by decide)
    refine zdec (fun z1 => zix_n (by omega) (by omega) (zdec (fun z2 => zix_n (by omega) (by omega) ?_) (fun z2 => ?_))) (fun z1 => ?_)
    · rw [hw, hC1.cock, hw2, o2]
      have a1 := yiv_t i1 z2 e99 (pS true (decide_eq_true z1))
      have w1 : (zwi IL1 137 m (nI e)).1 137 m = nI e := by rw [zwi_at, if_pos rfl]
      have jB : ∀ j, j ≠ m → (zwi IL1 137 m (nI e)).1 137 j = IL0.1 137 j ∧ (zwi IL1 137 m (nI e)).1 138 j = IL0.1 138 j := fun j h => by
        rw [zwi_at, if_neg h, hw2]
        exact jA j h
      refine zdec (fun z3 => zix_n (by omega) (by omega) (zdec (fun z4 => zix_n (by omega) (by omega) ?_) (fun z4 => ?_))) (fun z3 => ?_)
      · refine on _ _ _ (zfr_tr g (zfr_tr ydf_1 ydf_2)) (by rw [zwi_ne (by decide), w1]; exact a1) (by rw [zwi_at, if_pos rfl]; exact yiv_t i2 z4 e99 (pB true (decide_eq_true z3))) (fun j h => ?_)
        rw [zwi_ne (show 137 ≠ 138 by decide), zwi_at (c := 138), if_neg h]
        exact jB j h
      · exact on _ _ _ (zfr_tr g ydf_1) (by rw [w1]; exact a1) (by rw [hw2, o2]; exact yiv_o i2 z4) jB
      · exact on _ _ _ (zfr_tr g ydf_1) (by rw [w1]; exact a1) (by rw [hw2, o2]; exact yiv_f i2 (pB false (decide_eq_false z3))) jB
    · have a1 := yiv_o i1 z2
      refine zdec (fun z3 => zix_n (by omega) (by omega) (zdec (fun z4 => zix_n (by omega) (by omega) ?_) (fun z4 => ?_))) (fun z3 => ?_)
      · refine on _ _ _ (zfr_tr g ydf_2) (by rw [zwi_ne (by decide), o1]; exact a1) (by rw [zwi_at, if_pos rfl]; exact yiv_t i2 z4 e99 (pB true (decide_eq_true z3))) (fun j h => ?_)
        rw [zwi_ne (show 137 ≠ 138 by decide), zwi_at (c := 138), if_neg h]
        exact jA j h
      · exact on _ _ _ g (by rw [o1]; exact a1) (by rw [o2]; exact yiv_o i2 z4) jA
      · exact on _ _ _ g (by rw [o1]; exact a1) (by rw [o2]; exact yiv_f i2 (pB false (decide_eq_false z3))) jA
    · have a1 := yiv_f i1 (pS false (decide_eq_false z1))
      refine zdec (fun z3 => zix_n (by omega) (by omega) (zdec (fun z4 => zix_n (by omega) (by omega) ?_) (fun z4 => ?_))) (fun z3 => ?_)
      · refine on _ _ _ (zfr_tr g ydf_2) (by rw [zwi_ne (by decide), o1]; exact a1) (by rw [zwi_at, if_pos rfl]; exact yiv_t i2 z4 e99 (pB true (decide_eq_true z3))) (fun j h => ?_)
        rw [zwi_ne (show 137 ≠ 138 by decide), zwi_at (c := 138), if_neg h]
        exact jA j h
      · exact on _ _ _ g (by rw [o1]; exact a1) (by rw [o2]; exact yiv_o i2 z4) jA
      · exact on _ _ _ g (by rw [o1]; exact a1) (by rw [o2]; exact yiv_f i2 (pB false (decide_eq_false z3))) jA
theorem l_cd2 (hH : yOK H) (hC : yCH t H IL0) (hS : yCS 22 S IL0) (hB : ySB H S) (hfa : fa = 0 ∨ fa = 1) (hQ0 : ∀ IL', zfr (ydf t) IL0 IL' → (∃ m, m < H.n ∧ ytS H S q fa m = 1000000) → Q (zFx t, IL') (some (.int 0))) (hQ1 : ∀ IL', zfr (ydf t) IL0 IL' → (∀ j, j < H.n → bt (S 7) j = true → ytS H S q fa j ≤ 99 ∧ IL'.1 137 j = yen1 (ytS H S q fa j) ∧ IL'.1 138 j = yen1 (ytB H S q fa j)) → Q (zFx t, IL') (some (.int 1))) : ∀ (k m : Nat) (IL : zIL) (w4 w5 w6 : Value), m + k = H.n → zfr (ydf t) IL0 IL → (∀ j, j < m → bt (S 7) j = true → ytS H S q fa j ≤ 99 ∧ IL.1 137 j = yen1 (ytS H S q fa j) ∧ IL.1 138 j = yen1 (ytB H S q fa j)) → gX7_countDrops xs (d + 4) Q 2 [.ref 0, .int q, .int fa, .int (nI m), w4, w5, w6] [] (zFx t, IL)
  | 0, m, IL, w4, w5, w6, hm, fr, hj => by
    have n7 := hH.n7
    exact sX7_countDrops_2 t _ _ _ _ _ _ IL (zd_f (hC.df fr).mem (by omega) (by omega) (hQ1 IL fr (fun j h => hj j (by omega))))
  | k + 1, m, IL, w4, w5, w6, hm, fr, hj => by
    have n7 := hH.n7
    have hCI := hC.df fr
    have hSI := hS.df fr
    refine sX7_countDrops_2 t _ _ _ _ _ _ IL (zd_t hCI.mem (by omega) (by omega) ?_)
    rw [hSI.out]
    refine c_has (by omega) (fun hb => kI (z0 ?_)) (fun hb => kI (z1 (zix_n (by omega) (by omega) (zix_n (by omega) (by omega) (zix_n (by omega) (by omega) ?_)))))
    · rw [nI_1]
      exact l_cd2 hH hC hS hB hfa hQ0 hQ1 k (m + 1) IL w4 w5 w6 (by omega) fr (fun j h o => hj j (by
        have : j ≠ m := fun e => by rw [e, hb] at o; cases o
        omega) o)
    · rw [ycl (by omega)]
      have f2 : zfr (ydf t) IL0 (zwi (zwi IL 137 m (-1)) 138 m (-1)) := zfr_tr fr (zfr_tr ydf_1 ydf_2)
      have nl := yNo_le hB (m := m) (by omega)
      have e23 : (zwi (zwi IL 137 m (-1)) 138 m (-1)).1 23 m = nI (yNo S m + 1) - 1 := by
        rw [zwi_ne (by decide), zwi_ne (by decide), show IL.1 23 m = S m from hSI.no m (by omega), nI_pred]
        exact nl.2
      refine l_cd52 (q := q) hH (hC.df f2) (hS.df f2) hB (by omega) hb hfa (fun IL' f h => hQ0 IL' (zfr_tr f2 f) ⟨m, by omega, h⟩) (fun IL' w4 w5 w6 f h1 h2 h3 h4 => ?_) (yNo S m + 1) 0 _ _ _ _ (by omega) e23 zfr_rf ?_ ?_ (fun j h => ⟨rfl, rfl⟩)
      · refine l_cd2 hH hC hS hB hfa hQ0 hQ1 k (m + 1) IL' w4 w5 w6 (by omega) (zfr_tr f2 f) (fun j h o => ?_)
        by_cases e : j = m
        · subst e
          exact ⟨h1, h2, h3⟩
        · rw [(h4 j e).1, (h4 j e).2, zwi_ne (show 137 ≠ 138 by decide), zwi_at, if_neg e, zwi_at, if_neg e, zwi_ne (show 138 ≠ 137 by decide)]
          exact hj j (by omega) o
      · rw [zwi_ne (by decide), zwi_at, if_pos rfl]
        exact Or.inl ⟨rfl, by unfold ytS; rw [if_pos hb]⟩
      · rw [zwi_at, if_pos rfl]
        exact Or.inl ⟨rfl, by unfold ytB; rw [if_pos hb]⟩
end DROPS
