/-! States: copied, read through, wound by a pun, handed over -/
theorem zd_t {i n : Nat} {x : Int32} {A B : Prop} (hx : x = nI n) (h : i < n) (hb : n ≤ 4000) (a : A) : zif2 (decide (nI i < x)) A B := zdec (fun _ => a) (fun z => absurd (by rw [hx]; exact nI_lt h (by omega)) z)
theorem zd_f {i n : Nat} {x : Int32} {A B : Prop} (hx : x = nI n) (h : n ≤ i) (hb : i ≤ 4000) (b : B) : zif2 (decide (nI i < x)) A B := zdec (fun z => absurd z (by rw [hx]; exact nI_nlt h (by omega))) (fun _ => b)
theorem zix_n {i n : Nat} {P : Prop} (h : i < n) (hb : n ≤ 4000) (p : P) : zix (nI i) n P := zix_i (vp_in_nI h (by omega)) p
theorem ycl {i : Nat} (h : i ≤ 4000) : (nI i).toNatClampNeg = i := nI_clamp (by omega)
theorem y_bit {x : Int32} {i : Nat} (h : ¬ bt x i = true) : bt x i = false := by
  cases e : bt x i
  · rfl
  · exact absurd e h
def yrm (x m : Int32) : Int32 := x - x / m * m
def ysd (x : Int32) : Int32 := yrm (x * 137 + 71) 1000
def ypu (H : yH) (S : Nat → Int32) (i j : Nat) : Int32 := if j = 10 then ysd (S 10) else if j < i ∧ bt (S 7) j = true ∧ yrm (ysd (S 10)) 100 < H.puns then zmin 99 (S j + 1) else S j
def ypun (H : yH) (S : Nat → Int32) : Nat → Int32 := ypu H S H.n
def ybws (S : Nat → Int32) : Nat → Nat → List Int32
  | 0, _ => []
  | k + 1, m => if bt (S 7) m then S m :: ybws S k (m + 1) else ybws S k (m + 1)
def yrk (S : Nat → Int32) : Nat → Nat
  | 0 => 0
  | j + 1 => if bt (S 7) j then yrk S j else yrk S j + 1
def ychg (H : yH) (S : Nat → Int32) (j : Nat) : Int32 := if j = 7 then ((1 <<< (nI H.n &&& 31)) - 1) &&& (S 7 ^^^ (-1)) else if j < H.n then (if bt (S 7) j then 0 else (ybws S H.n 0).getD (yrk S j) 0) else S j
def yal (H : yH) (mo : Int32) (fa : Nat → Int32) (r : Int32) : Nat → Nat → (Nat → Int32) → Int32 → Int32
  | 0, _, _, a => a
  | k + 1, c, S, a => if bt r c then yal H mo fa r k (c + 1) S a else yal H mo fa r k (c + 1) (ysit H mo (H.sh c) (fa c) c S) (if ypas H mo (H.sh c) (fa c) S then a + 1 else a)
/-- States that a copy may go between -/
def yapart (a b : Nat) : Prop := a ≠ b ∧ a + 1 ≠ b ∧ a ≠ b + 1
theorem ysit_7 (H : yH) (mo q fa : Int32) (c : Nat) (S : Nat → Int32) (h : H.n ≤ 7) : ysit H mo q fa c S 7 = S 7 := by
  unfold ysit yS1
  rw [if_neg (by decide), if_neg (by decide), if_neg (fun z => by have := z.1; omega)]
theorem ysit_10 (H : yH) (mo q fa : Int32) (c : Nat) (S : Nat → Int32) (h : H.n ≤ 7) : ysit H mo q fa c S 10 = S 10 := by
  unfold ysit yS1
  rw [if_neg (by decide), if_neg (by decide), if_neg (fun z => by have := z.1; omega)]
theorem ysit_8 (H : yH) (mo q fa : Int32) (c : Nat) (S : Nat → Int32) : ysit H mo q fa c S 8 = S 8 ||| (1 <<< (nI c &&& 31)) := by
  unfold ysit
  rw [if_pos rfl]
theorem yin_lt {x y : Int32} {a b : Int} (h : x < y) (hy : yin y a b) (hx : a ≤ x.toInt) : yin x a b := ⟨hx, by have := Int32.lt_iff_toInt_lt.mp h; have := hy.2; omega⟩
theorem ySB_sit {H : yH} {S : Nat → Int32} (hH : yOK H) (hB : ySB H S) (mo q fa : Int32) {c : Nat} (hc : c < H.k) : ySB H (ysit H mo q fa c S) := by
  have n7 := hH.n7
  have k6 := hH.k6
  have low : ∀ j, j < 7 → ysit H mo q fa c S j = yS1 H mo q fa S H.n j := fun j hj => by
    unfold ysit
    rw [if_neg (by omega), if_neg (by omega)]
  have orb : ∀ (x : Int32) (i : Nat), H.k ≤ i → bt x i = false → bt (x ||| (1 <<< (nI c &&& 31))) i = false := fun x i hi hx => by
    rcases Nat.lt_or_ge i 32 with h | h
    · rw [b_or, hx, b_one (by omega) h, decide_eq_false (by omega)]; rfl
    · exact b_big h
  refine ySB.mk (fun j hj => ?_) (fun j hj hb => ?_) (fun i hi => ?_) (fun i hi => ?_) (fun i hi => ?_) ?_
  · rw [low j hj]
    unfold yS1
    split
    · unfold ynv
      split
      · have h99 := hB.no j hj
        refine yin_lt ‹_› ⟨by have := hH.cock.1; omega, by have := hH.cock.2; omega⟩ ?_
        unfold yno
        rw [ynw_i h99]
        omega
      · exact ⟨by decide, by decide⟩
    · exact hB.no j hj
  · rw [ysit_7 _ _ _ _ _ _ n7] at hb
    rw [low j hj]
    unfold yS1
    rw [if_neg (fun z => by rw [hb] at z; cases z.2)]
    exact hB.inn j hj hb
  · rw [ysit_7 _ _ _ _ _ _ n7]
    exact hB.out i hi
  · rw [ysit_8]
    exact orb _ i hi (hB.read i hi)
  · unfold ysit
    rw [if_neg (by decide), if_pos rfl]
    split
    · exact orb _ i hi (hB.car i hi)
    · exact hB.car i hi
  · rw [ysit_10 _ _ _ _ _ _ n7]
    exact hB.seed
theorem ysit_rd {H : yH} {S : Nat → Int32} {mo q fa : Int32} {c i : Nat} (hc : c < 32) (hi : c < i) : bt (ysit H mo q fa c S 8) i = bt (S 8) i := by
  rw [ysit_8]
  rcases Nat.lt_or_ge i 32 with h | h
  · rw [b_or, b_one hc h, decide_eq_false (by omega), Bool.or_false]
  · rw [b_big h, b_big h]
section ST
variable {xs : List Int32} {d : Nat} {Q : zQ} {t u : Bool} {IL IL0 : zIL} {H : yH} {s c : Nat} {mo q fa : Int32} {S : Nat → Int32}
theorem c_copy {s1 : Nat} (hs : zSt t s) (hs1 : zSt t s1) (ha : yapart s s1) (hS : yCS s1 S IL) (hQ : ∀ IL', zfr [s, s + 1] IL IL' → yCS s S IL' → Q (zFx t, IL') none) : zcall xs (d + 1) 80 (zFx t, IL) [.ref s, .ref s1] Q := by
  have a1 := ha.1
  have a2 := ha.2.1
  have a3 := ha.2.2
  refine sX6_copy t s s1 IL hs hs1 ?_
  have fc : zfr [s, s + 1] IL (zwc IL (s1 + 1) 0 (s + 1) 0 7) := ⟨fun c hc => by
    unfold zwc zrow
    funext j
    exact if_neg (fun e => hc (by rw [e]; simp)), rfl⟩
  have cc : ∀ j, j < 7 → (zwc IL (s1 + 1) 0 (s + 1) 0 7).1 (s + 1) j = S j := fun j hj => by
    have : (zwc IL (s1 + 1) 0 (s + 1) 0 7).1 (s + 1) j = va_cpy (IL.1 (s1 + 1)) (IL.1 (s + 1)) 0 0 7 j := by
      unfold zwc zrow
      exact if_pos rfl
    rw [this, pk_cpy_in (by omega) (by omega)]
    have : 0 + (j - 0) = j := by omega
    rw [this]
    exact hS.no j hj
  generalize zwc IL (s1 + 1) 0 (s + 1) 0 7 = K at fc cc ⊢
  have k1 : K.1 s1 = IL.1 s1 := fc.1 s1 (by simp only [List.mem_cons, List.not_mem_nil, or_false]; omega)
  have ms : s ∈ [s, s + 1] := List.mem_cons_self
  refine hQ _ (zfr_tr fc (zfr_tr (zfr_tr (zfr_tr (zfr_wi ms) (zfr_wi ms)) (zfr_wi ms)) (zfr_wi ms))) ?_
  have ne : s1 ≠ s := fun e => a1 e.symm
  have ne1 : s + 1 ≠ s := by omega
  simp only [zwi_ne ne, k1]
  unfold yCS
  refine ⟨fun j hj => ?_, ?_, ?_, ?_, ?_⟩
  · rw [zwi_ne ne1, zwi_ne ne1, zwi_ne ne1, zwi_ne ne1, cc j hj]
  · rw [zwi_at, if_neg (by decide), zwi_at, if_neg (by decide), zwi_at, if_neg (by decide), zwi_at, if_pos rfl, hS.out]
  · rw [zwi_at, if_neg (by decide), zwi_at, if_neg (by decide), zwi_at, if_pos rfl, hS.read]
  · rw [zwi_at, if_neg (by decide), zwi_at, if_pos rfl, hS.car]
  · rw [zwi_at, if_pos rfl, hS.seed]
theorem l_sitAll {r : Int32} (hs : zSt t s) (h22 : 22 ≤ s) (hH : yOK H) (hfa : fa = 0 ∨ fa = 1) (hC : yCH u H IL0) : ∀ (k i : Nat) (IL : zIL) (S : Nat → Int32) (a : Int32), i + k = H.k → zfr [s, s + 1, zH u + 5, zH u + 7] IL0 IL → yCS s S IL → ySB H S → (∀ j, i ≤ j → bt (S 8) j = bt r j) → (∀ IL', zfr [s, s + 1, zH u + 5, zH u + 7] IL0 IL' → Q (zFx t, IL') (some (.int (yal H mo (fun _ => fa) r k i S a)))) → gX6_sitAll xs (d + 4) Q 6 [.ref s, .ref (zH u), .int mo, .int fa, .int a, .int (nI i)] [] (zFx t, IL)
  | 0, i, IL, S, a, hi, fr, hS, hB, hr, hQ => by
    have k6 := hH.k6
    exact sX6_sitAll_6 t u s _ _ _ _ IL hs (zd_f (hC.zf h22 fr).cla (by omega) (by omega) (hQ IL fr))
  | k + 1, i, IL, S, a, hi, fr, hS, hB, hr, hQ => by
    have k6 := hH.k6
    have hCI := hC.zf h22 fr
    unfold yal at hQ
    refine sX6_sitAll_6 t u s _ _ _ _ IL hs (zd_t hCI.cla (by omega) (by omega) ?_)
    rw [hS.read]
    refine c_has (by omega) (fun hb => (kI ?_)) (fun hb => (kI ?_))
    · rw [← hr i (by omega), hb] at hQ
      refine zix_n (by omega) (by omega) ?_
      rw [ycl (by omega), hCI.sh i (by omega)]
      refine c_sitAs hs h22 hH hfa hCI hS hB (fun IL' f1 f2 _ _ => (kI ?_))
      have go : ∀ (a' : Int32), (∀ IL', zfr [s, s + 1, zH u + 5, zH u + 7] IL0 IL' → Q (zFx t, IL') (some (.int (yal H mo (fun _ => fa) r k (i + 1) (ysit H mo (H.sh i) fa i S) a')))) → gX6_sitAll xs (d + 4) Q 6 [.ref s, .ref (zH u), .int mo, .int fa, .int a', .int (nI i + 1)] [] (zFx t, IL') := fun a' hq => by
        rw [nI_1]
        exact l_sitAll hs h22 hH hfa hC k (i + 1) IL' _ a' (by omega) (zfr_tr fr f1) f2 (ySB_sit hH hB _ _ _ (by omega)) (fun j hj => by rw [ysit_rd (by omega) (by omega)]; exact hr j (by omega)) hq
      revert hQ
      cases ypas H mo (H.sh i) fa S
      · exact fun hQ => go a hQ
      · exact fun hQ => go (a + 1) hQ
    · rw [← hr i (by omega), hb] at hQ
      show gX6_sitAll xs (d + 4) Q 6 [.ref s, .ref (zH u), .int mo, .int fa, .int a, .int (nI i + 1)] [] (zFx t, IL)
      rw [nI_1]
      exact l_sitAll hs h22 hH hfa hC k (i + 1) IL S a (by omega) fr hS hB (fun j hj => hr j (by omega)) hQ
theorem c_sitAll (hs : zSt t s) (h22 : 22 ≤ s) (hH : yOK H) (hfa : fa = 0 ∨ fa = 1) (hC : yCH u H IL) (hS : yCS s S IL) (hB : ySB H S) (hQ : ∀ IL', zfr [s, s + 1, zH u + 5, zH u + 7] IL IL' → Q (zFx t, IL') (some (.int (yal H mo (fun _ => fa) (S 8) H.k 0 S 0)))) : zcall xs (d + 5) 83 (zFx t, IL) [.ref s, .ref (zH u), .int mo, .int fa] Q :=
  sX6_sitAll t u s _ _ IL hs (l_sitAll hs h22 hH hfa hC H.k 0 IL S 0 (by omega) zfr_rf hS hB (fun _ _ => rfl) hQ)
theorem l_drawPun (hs : zSt t s) (h22 : 22 ≤ s) (hH : yOK H) (hC : yCH u H IL0) (hp : yrm (ysd (S 10)) 100 < H.puns) (hQ : ∀ IL', zfr [s, s + 1] IL0 IL' → yCS s (ypun H S) IL' → Q (zFx t, IL') none) : ∀ (k i : Nat) (IL : zIL), i + k = H.n → zfr [s, s + 1] IL0 IL → yCS s (ypu H S i) IL → gX6_drawPun xs (d + 1) Q 35 [.ref s, .ref (zH u), .int (nI i)] [] (zFx t, IL)
  | 0, i, IL, hi, fr, hS => by
    have n7 := hH.n7
    have hCI : yCH u H IL := hC.zf h22 (zfr_le fr (fun c hc => by simp only [List.mem_cons, List.not_mem_nil, or_false] at hc ⊢; omega))
    have e : i = H.n := by omega
    subst e
    exact sX6_drawPun_35 t u s _ IL hs (zd_f hCI.mem (by omega) (by omega) (hQ IL fr hS))
  | k + 1, i, IL, hi, fr, hS => by
    have n7 := hH.n7
    have hCI : yCH u H IL := hC.zf h22 (zfr_le fr (fun c hc => by simp only [List.mem_cons, List.not_mem_nil, or_false] at hc ⊢; omega))
    have e7 : ypu H S i 7 = S 7 := by
      unfold ypu
      rw [if_neg (by decide), if_neg (fun z => by have := z.1; omega)]
    refine sX6_drawPun_35 t u s _ IL hs (zd_t hCI.mem (by omega) (by omega) ?_)
    rw [hS.out, e7]
    refine c_has (by omega) (fun hb => (kI ?_)) (fun hb => (kI ?_))
    · show gX6_drawPun xs (d + 1) Q 35 [.ref s, .ref (zH u), .int (nI i + 1)] [] (zFx t, IL)
      rw [nI_1]
      have e : ypu H S (i + 1) = ypu H S i := by
        funext j
        unfold ypu
        by_cases q : j = i
        · subst q
          rw [if_neg (c := j < j + 1 ∧ _) (fun z => by rw [hb] at z; cases z.2.1), if_neg (c := j < j ∧ _) (fun z => by have := z.1; omega)]
        · have : (j < i + 1) = (j < i) := propext ⟨fun _ => by omega, fun _ => by omega⟩
          simp only [this]
      exact l_drawPun hs h22 hH hC hp hQ k (i + 1) IL (by omega) fr (by rw [e]; exact hS)
    · refine zix_n (by omega) (by omega) ?_
      rw [ycl (by omega)]
      refine c_min (kI (zix_n (by omega) (by omega) ?_))
      rw [nI_1]
      have ms1 : s + 1 ∈ [s, s + 1] := by simp
      have ei : IL.1 (s + 1) i = S i := by
        rw [hS.no i (by omega)]
        unfold ypu
        rw [if_neg (by omega), if_neg (fun z => by have := z.1; omega)]
      have hi' : ∀ j, j ≠ i → ypu H S (i + 1) j = ypu H S i j := fun j hj => by
        unfold ypu
        have : (j < i + 1) = (j < i) := propext ⟨fun _ => by omega, fun _ => by omega⟩
        simp only [this]
      refine l_drawPun hs h22 hH hC hp hQ k (i + 1) _ (by omega) (zfr_tr fr (zfr_wi ms1)) ?_
      have ns : s ≠ s + 1 := by omega
      unfold yCS
      refine ⟨fun j hj => ?_, ?_, ?_, ?_, ?_⟩
      · rw [zwi_at]
        by_cases q : j = i
        · subst q
          rw [if_pos rfl, ei]
          unfold ypu
          rw [if_neg (by omega), if_pos ⟨by omega, hb, hp⟩]
        · rw [if_neg q, hS.no j hj, hi' j q]
      · rw [zwi_ne ns, hS.out, hi' 7 (by omega)]
      · rw [zwi_ne ns, hS.read, hi' 8 (by omega)]
      · rw [zwi_ne ns, hS.car, hi' 9 (by omega)]
      · rw [zwi_ne ns, hS.seed, hi' 10 (by omega)]
theorem c_drawPun (hs : zSt t s) (h22 : 22 ≤ s) (hH : yOK H) (hC : yCH u H IL) (hS : yCS s S IL) (hQ : ∀ IL', zfr [s, s + 1] IL IL' → yCS s (ypun H S) IL' → Q (zFx t, IL') none) : zcall xs (d + 2) 84 (zFx t, IL) [.ref s, .ref (zH u)] Q := by
  have n7 := hH.n7
  have zl := zH_le u
  refine sX6_drawPun t u s IL hs ⟨by decide, by decide, ?_⟩
  have ms : s ∈ [s, s + 1] := List.mem_cons_self
  have e1 : ∀ v, (zwi IL s 4 v).1 s 4 = v := fun v => by rw [zwi_at, if_pos rfl]
  rw [e1, zwi_ne (show zH u ≠ s by omega), hC.puns, hS.seed]
  have ev : ((S 10 * 137 + 71) - (S 10 * 137 + 71) / 1000 * 1000) = ysd (S 10) := rfl
  rw [ev]
  have cs : ∀ T : Nat → Int32, (∀ j, j < 10 → T j = S j) → T 10 = ysd (S 10) → yCS s T (zwi IL s 4 (ysd (S 10))) := fun T hT h10 => by
    unfold yCS
    refine ⟨fun j hj => ?_, ?_, ?_, ?_, ?_⟩
    · rw [zwi_ne (by omega), hS.no j hj, hT j (by omega)]
    · rw [zwi_at, if_neg (by decide), hS.out, hT 7 (by omega)]
    · rw [zwi_at, if_neg (by decide), hS.read, hT 8 (by omega)]
    · rw [zwi_at, if_neg (by decide), hS.car, hT 9 (by omega)]
    · rw [zwi_at, if_pos rfl, h10]
  refine zdec (fun z => ?_) (fun z => ?_)
  · exact l_drawPun hs h22 hH hC z hQ H.n 0 _ (by omega) (zfr_wi ms) (cs _ (fun j hj => by unfold ypu; rw [if_neg (by omega), if_neg (fun z => by have := z.1; omega)]) (by unfold ypu; rw [if_pos rfl]))
  · refine hQ _ (zfr_wi ms) (cs _ (fun j hj => ?_) (by unfold ypun ypu; rw [if_pos rfl]))
    unfold ypun ypu
    rw [if_neg (by omega), if_neg (fun w => z w.2.2)]
end ST
