/-! the model reads a line -/
theorem ywi_o {A : zIL} {c j c' j' : Nat} {v : Int32} (h : ¬ (c' = c ∧ j' = j)) : (zwi A c j v).1 c' j' = A.1 c' j' := by
  by_cases e : c' = c
  · subst e
    rw [zwi_at, if_neg (fun z => h ⟨rfl, z⟩)]
  · rw [zwi_ne e]
theorem ywi_s {A : zIL} {c j : Nat} {v : Int32} : (zwi A c j v).1 c j = v := by rw [zwi_at, if_pos rfl]
theorem ysp_x {B : Nat → Nat} {n : Nat} {c : ytkT → Nat} {r : Nat × ytkT} (h : r.1 ≠ 0) : ysp B n c r = r := by
  unfold ysp
  rw [if_neg h]
/-- slots that the reading of lines may change -/
def ywsl (c j : Nat) : Prop := (c = 145 ∧ ((2 ≤ j ∧ j ≤ 4) ∨ (6 ≤ j ∧ j ≤ 8) ∨ j = 17 ∨ j = 19 ∨ j = 20 ∨ (22 ≤ j ∧ j ≤ 24) ∨ (34 ≤ j ∧ j ≤ 40) ∨ (48 ≤ j ∧ j ≤ 51))) ∨ c = 148 ∨ c = 149 ∨ c = 152 ∨ c = 155 ∨ c = 156 ∨ c = 157
def yfw (A B : zIL) : Prop := (∀ c j, ¬ ywsl c j → B.1 c j = A.1 c j) ∧ (∀ c j, ¬ (c = 145 ∧ j = 9) → c ≠ 147 → B.2 c j = A.2 c j)
theorem yfw_rf {A : zIL} : yfw A A := ⟨fun _ _ _ => rfl, fun _ _ _ _ => rfl⟩
theorem yfw_tr {A B C : zIL} (h1 : yfw A B) (h2 : yfw B C) : yfw A C := ⟨fun c j a => (h2.1 c j a).trans (h1.1 c j a), fun c j h g => (h2.2 c j h g).trans (h1.2 c j h g)⟩
theorem yfw_y {A B : zIL} (h : yfy A B) : yfw A B := ⟨fun c j a => h.1 c j (fun z => a (Or.inl ⟨z.1, by omega⟩)), fun c j a _ => h.2 c j a⟩
theorem yfw_w {A : zIL} {c j : Nat} {v : Int32} (h : ywsl c j) : yfw A (zwi A c j v) := ⟨fun c' j' a => ywi_o (fun z => a (by rw [z.1, z.2]; exact h)), fun _ _ _ _ => rfl⟩
def yZF (mn cn : List (List Nat)) (fl : Nat → Bool) (H : yH) (IL : zIL) : Prop := (IL.1 145 34 = nI H.n) ∧ (IL.1 145 35 = nI H.k) ∧ (IL.1 145 36 = H.out) ∧ (IL.1 145 37 = H.cock) ∧ (IL.1 145 38 = H.quota) ∧ (IL.1 145 39 = H.puns) ∧ (IL.1 145 40 = H.draw) ∧ (IL.1 145 24 = if fl 2 then 1 else 0) ∧ (IL.1 145 48 = if fl 3 then 1 else 0) ∧ (IL.1 145 49 = if fl 4 then 1 else 0) ∧ (IL.1 145 50 = if fl 5 then 1 else 0) ∧ (IL.1 145 51 = if fl 6 then 1 else 0) ∧ (∀ j, j < H.n → IL.1 155 j = H.mi j) ∧ (∀ j, j < H.n → IL.1 156 j = H.vo j) ∧ (∀ j, j < H.k → IL.1 157 j = H.sh j) ∧ (∀ j, j < H.n → IL.2 147 j = y8 (mn.getD j [])) ∧ (∀ j, j < H.k → IL.2 147 (7 + j) = y8 (cn.getD j [])) ∧ (IL.1 145 20 = H.units) ∧ (fl 2 = true → yk2 H.ss IL)
theorem yZF.nn {mn cn : List (List Nat)} {fl : Nat → Bool} {H : yH} {IL : zIL} (h : yZF mn cn fl H IL) : IL.1 145 34 = nI H.n := h.1
theorem yZF.kk {mn cn : List (List Nat)} {fl : Nat → Bool} {H : yH} {IL : zIL} (h : yZF mn cn fl H IL) : IL.1 145 35 = nI H.k := h.2.1
theorem yZF.out {mn cn : List (List Nat)} {fl : Nat → Bool} {H : yH} {IL : zIL} (h : yZF mn cn fl H IL) : IL.1 145 36 = H.out := h.2.2.1
theorem yZF.cock {mn cn : List (List Nat)} {fl : Nat → Bool} {H : yH} {IL : zIL} (h : yZF mn cn fl H IL) : IL.1 145 37 = H.cock := h.2.2.2.1
theorem yZF.quota {mn cn : List (List Nat)} {fl : Nat → Bool} {H : yH} {IL : zIL} (h : yZF mn cn fl H IL) : IL.1 145 38 = H.quota := h.2.2.2.2.1
theorem yZF.puns {mn cn : List (List Nat)} {fl : Nat → Bool} {H : yH} {IL : zIL} (h : yZF mn cn fl H IL) : IL.1 145 39 = H.puns := h.2.2.2.2.2.1
theorem yZF.draw {mn cn : List (List Nat)} {fl : Nat → Bool} {H : yH} {IL : zIL} (h : yZF mn cn fl H IL) : IL.1 145 40 = H.draw := h.2.2.2.2.2.2.1
theorem yZF.f2 {mn cn : List (List Nat)} {fl : Nat → Bool} {H : yH} {IL : zIL} (h : yZF mn cn fl H IL) : IL.1 145 24 = if fl 2 then 1 else 0 := h.2.2.2.2.2.2.2.1
theorem yZF.f3 {mn cn : List (List Nat)} {fl : Nat → Bool} {H : yH} {IL : zIL} (h : yZF mn cn fl H IL) : IL.1 145 48 = if fl 3 then 1 else 0 := h.2.2.2.2.2.2.2.2.1
theorem yZF.f4 {mn cn : List (List Nat)} {fl : Nat → Bool} {H : yH} {IL : zIL} (h : yZF mn cn fl H IL) : IL.1 145 49 = if fl 4 then 1 else 0 := h.2.2.2.2.2.2.2.2.2.1
theorem yZF.f5 {mn cn : List (List Nat)} {fl : Nat → Bool} {H : yH} {IL : zIL} (h : yZF mn cn fl H IL) : IL.1 145 50 = if fl 5 then 1 else 0 := h.2.2.2.2.2.2.2.2.2.2.1
theorem yZF.f6 {mn cn : List (List Nat)} {fl : Nat → Bool} {H : yH} {IL : zIL} (h : yZF mn cn fl H IL) : IL.1 145 51 = if fl 6 then 1 else 0 := h.2.2.2.2.2.2.2.2.2.2.2.1
theorem yZF.mi {mn cn : List (List Nat)} {fl : Nat → Bool} {H : yH} {IL : zIL} (h : yZF mn cn fl H IL) : ∀ j, j < H.n → IL.1 155 j = H.mi j := h.2.2.2.2.2.2.2.2.2.2.2.2.1
theorem yZF.vo {mn cn : List (List Nat)} {fl : Nat → Bool} {H : yH} {IL : zIL} (h : yZF mn cn fl H IL) : ∀ j, j < H.n → IL.1 156 j = H.vo j := h.2.2.2.2.2.2.2.2.2.2.2.2.2.1
theorem yZF.sh {mn cn : List (List Nat)} {fl : Nat → Bool} {H : yH} {IL : zIL} (h : yZF mn cn fl H IL) : ∀ j, j < H.k → IL.1 157 j = H.sh j := h.2.2.2.2.2.2.2.2.2.2.2.2.2.2.1
theorem yZF.mn {mn cn : List (List Nat)} {fl : Nat → Bool} {H : yH} {IL : zIL} (h : yZF mn cn fl H IL) : ∀ j, j < H.n → IL.2 147 j = y8 (mn.getD j []) := h.2.2.2.2.2.2.2.2.2.2.2.2.2.2.2.1
theorem yZF.cn {mn cn : List (List Nat)} {fl : Nat → Bool} {H : yH} {IL : zIL} (h : yZF mn cn fl H IL) : ∀ j, j < H.k → IL.2 147 (7 + j) = y8 (cn.getD j []) := h.2.2.2.2.2.2.2.2.2.2.2.2.2.2.2.2.1
theorem yZF.un {mn cn : List (List Nat)} {fl : Nat → Bool} {H : yH} {IL : zIL} (h : yZF mn cn fl H IL) : IL.1 145 20 = H.units := h.2.2.2.2.2.2.2.2.2.2.2.2.2.2.2.2.2.1
theorem yZF.ss {mn cn : List (List Nat)} {fl : Nat → Bool} {H : yH} {IL : zIL} (h : yZF mn cn fl H IL) : fl 2 = true → yk2 H.ss IL := h.2.2.2.2.2.2.2.2.2.2.2.2.2.2.2.2.2.2
theorem yZF.mk {mn cn : List (List Nat)} {fl : Nat → Bool} {H : yH} {IL : zIL} (nn_ : IL.1 145 34 = nI H.n) (kk_ : IL.1 145 35 = nI H.k) (out_ : IL.1 145 36 = H.out) (cock_ : IL.1 145 37 = H.cock) (quota_ : IL.1 145 38 = H.quota) (puns_ : IL.1 145 39 = H.puns) (draw_ : IL.1 145 40 = H.draw) (f2_ : IL.1 145 24 = if fl 2 then 1 else 0) (f3_ : IL.1 145 48 = if fl 3 then 1 else 0) (f4_ : IL.1 145 49 = if fl 4 then 1 else 0) (f5_ : IL.1 145 50 = if fl 5 then 1 else 0) (f6_ : IL.1 145 51 = if fl 6 then 1 else 0) (mi_ : ∀ j, j < H.n → IL.1 155 j = H.mi j) (vo_ : ∀ j, j < H.n → IL.1 156 j = H.vo j) (sh_ : ∀ j, j < H.k → IL.1 157 j = H.sh j) (mn_ : ∀ j, j < H.n → IL.2 147 j = y8 (mn.getD j [])) (cn_ : ∀ j, j < H.k → IL.2 147 (7 + j) = y8 (cn.getD j [])) (un_ : IL.1 145 20 = H.units) (ss_ : fl 2 = true → yk2 H.ss IL) : yZF mn cn fl H IL := show (IL.1 145 34 = nI H.n) ∧ (IL.1 145 35 = nI H.k) ∧ (IL.1 145 36 = H.out) ∧ (IL.1 145 37 = H.cock) ∧ (IL.1 145 38 = H.quota) ∧ (IL.1 145 39 = H.puns) ∧ (IL.1 145 40 = H.draw) ∧ (IL.1 145 24 = if fl 2 then 1 else 0) ∧ (IL.1 145 48 = if fl 3 then 1 else 0) ∧ (IL.1 145 49 = if fl 4 then 1 else 0) ∧ (IL.1 145 50 = if fl 5 then 1 else 0) ∧ (IL.1 145 51 = if fl 6 then 1 else 0) ∧ (∀ j, j < H.n → IL.1 155 j = H.mi j) ∧ (∀ j, j < H.n → IL.1 156 j = H.vo j) ∧ (∀ j, j < H.k → IL.1 157 j = H.sh j) ∧ (∀ j, j < H.n → IL.2 147 j = y8 (mn.getD j [])) ∧ (∀ j, j < H.k → IL.2 147 (7 + j) = y8 (cn.getD j [])) ∧ (IL.1 145 20 = H.units) ∧ (fl 2 = true → yk2 H.ss IL) from ⟨nn_, kk_, out_, cock_, quota_, puns_, draw_, f2_, f3_, f4_, f5_, f6_, mi_, vo_, sh_, mn_, cn_, un_, ss_⟩
/-- the fields do not ask after the token -/
theorem yZF_y {mn cn : List (List Nat)} {fl : Nat → Bool} {H : yH} {A J : zIL} (h : yZF mn cn fl H A) (f : yfy A J) : yZF mn cn fl H J := by
  refine yZF.mk ?_ ?_ ?_ ?_ ?_ ?_ ?_ ?_ ?_ ?_ ?_ ?_ ?_ ?_ ?_ ?_ ?_ ?_ ?_
  · rw [f.1 145 34 (by omega)]; exact h.nn
  · rw [f.1 145 35 (by omega)]; exact h.kk
  · rw [f.1 145 36 (by omega)]; exact h.out
  · rw [f.1 145 37 (by omega)]; exact h.cock
  · rw [f.1 145 38 (by omega)]; exact h.quota
  · rw [f.1 145 39 (by omega)]; exact h.puns
  · rw [f.1 145 40 (by omega)]; exact h.draw
  · rw [f.1 145 24 (by omega)]; exact h.f2
  · rw [f.1 145 48 (by omega)]; exact h.f3
  · rw [f.1 145 49 (by omega)]; exact h.f4
  · rw [f.1 145 50 (by omega)]; exact h.f5
  · rw [f.1 145 51 (by omega)]; exact h.f6
  · intro j hj; rw [f.1 155 j (by omega)]; exact h.mi j hj
  · intro j hj; rw [f.1 156 j (by omega)]; exact h.vo j hj
  · intro j hj; rw [f.1 157 j (by omega)]; exact h.sh j hj
  · intro j hj; rw [f.2 147 j (by omega)]; exact h.mn j hj
  · intro j hj; rw [f.2 147 _ (by omega)]; exact h.cn j hj
  · rw [f.1 145 20 (by omega)]; exact h.un
  · intro z; exact ⟨by rw [f.1 145 17 (by omega)]; exact (h.ss z).1, fun j hj => by rw [f.1 148 j (by omega), f.1 149 j (by omega)]; exact (h.ss z).2 j hj⟩
theorem yZF_m {mn cn : List (List Nat)} {fl : Nat → Bool} {H : yH} {A J : zIL} {w : List Nat} {o : Bool} {a b : Int32} (h : yZF mn cn fl H A) (hl : mn.length = H.n) (h7 : H.n < 7) (e34 : J.1 145 34 = nI (H.n + 1)) (e36 : J.1 145 36 = if o then H.out ||| (1 <<< (nI H.n &&& 31)) else H.out) (e5 : J.1 155 H.n = a) (e6 : J.1 156 H.n = b) (e7 : J.2 147 H.n = y8 w)
    (f : ∀ c j, ¬ (c = 145 ∧ ((2 ≤ j ∧ j ≤ 4) ∨ (6 ≤ j ∧ j ≤ 8) ∨ j = 34 ∨ j = 36)) → ¬ (c = 155 ∧ j = H.n) → ¬ (c = 156 ∧ j = H.n) → J.1 c j = A.1 c j) (f2 : ∀ c j, ¬ (c = 145 ∧ j = 9) → ¬ (c = 147 ∧ j = H.n) → J.2 c j = A.2 c j) : yZF (mn ++ [w]) cn fl (yHm H o a b) J := by
  refine yZF.mk e34 ?_ e36 ?_ ?_ ?_ ?_ ?_ ?_ ?_ ?_ ?_ ?_ ?_ ?_ ?_ ?_ ?_ ?_
  · rw [f 145 35 (by omega) (by omega) (by omega)]; exact h.kk
  · rw [f 145 37 (by omega) (by omega) (by omega)]; exact h.cock
  · rw [f 145 38 (by omega) (by omega) (by omega)]; exact h.quota
  · rw [f 145 39 (by omega) (by omega) (by omega)]; exact h.puns
  · rw [f 145 40 (by omega) (by omega) (by omega)]; exact h.draw
  · rw [f 145 24 (by omega) (by omega) (by omega)]; exact h.f2
  · rw [f 145 48 (by omega) (by omega) (by omega)]; exact h.f3
  · rw [f 145 49 (by omega) (by omega) (by omega)]; exact h.f4
  · rw [f 145 50 (by omega) (by omega) (by omega)]; exact h.f5
  · rw [f 145 51 (by omega) (by omega) (by omega)]; exact h.f6
  · intro j hj
    have hj' : j < H.n + 1 := hj
    show J.1 155 j = if j = H.n then a else H.mi j
    by_cases q : j = H.n
    · rw [if_pos q, q]; exact e5
    · rw [if_neg q, f 155 j (by omega) (by omega) (by omega)]; exact h.mi j (by omega)
  · intro j hj
    have hj' : j < H.n + 1 := hj
    show J.1 156 j = if j = H.n then b else H.vo j
    by_cases q : j = H.n
    · rw [if_pos q, q]; exact e6
    · rw [if_neg q, f 156 j (by omega) (by omega) (by omega)]; exact h.vo j (by omega)
  · intro j hj; rw [f 157 j (by omega) (by omega) (by omega)]; exact h.sh j hj
  · intro j hj
    have hj' : j < H.n + 1 := hj
    by_cases q : j = H.n
    · rw [q, ← hl, ygw_l, hl]; exact e7
    · rw [ygw_a mn w j (by omega), f2 147 j (by omega) (by omega)]; exact h.mn j (by omega)
  · intro j hj; rw [f2 147 _ (by omega) (by omega)]; exact h.cn j hj
  · rw [f 145 20 (by omega) (by omega) (by omega)]; exact h.un
  · intro z; exact ⟨by rw [f 145 17 (by omega) (by omega) (by omega)]; exact (h.ss z).1, fun j hj => by rw [f 148 j (by omega) (by omega) (by omega), f 149 j (by omega) (by omega) (by omega)]; exact (h.ss z).2 j hj⟩
theorem yZF_c {mn cn : List (List Nat)} {fl : Nat → Bool} {H : yH} {A J : zIL} {w : List Nat} {a : Int32} (h : yZF mn cn fl H A) (hl : cn.length = H.k) (e35 : J.1 145 35 = nI (H.k + 1)) (h7 : H.n ≤ 7) (e5 : J.1 157 H.k = a) (e7 : J.2 147 (7 + H.k) = y8 w)
    (f : ∀ c j, ¬ (c = 145 ∧ ((2 ≤ j ∧ j ≤ 4) ∨ (6 ≤ j ∧ j ≤ 8) ∨ j = 35)) → ¬ (c = 157 ∧ j = H.k) → J.1 c j = A.1 c j) (f2 : ∀ c j, ¬ (c = 145 ∧ j = 9) → ¬ (c = 147 ∧ j = 7 + H.k) → J.2 c j = A.2 c j) : yZF mn (cn ++ [w]) fl (yHc H a) J := by
  refine yZF.mk ?_ e35 ?_ ?_ ?_ ?_ ?_ ?_ ?_ ?_ ?_ ?_ ?_ ?_ ?_ ?_ ?_ ?_ ?_
  · rw [f 145 34 (by omega) (by omega)]; exact h.nn
  · rw [f 145 36 (by omega) (by omega)]; exact h.out
  · rw [f 145 37 (by omega) (by omega)]; exact h.cock
  · rw [f 145 38 (by omega) (by omega)]; exact h.quota
  · rw [f 145 39 (by omega) (by omega)]; exact h.puns
  · rw [f 145 40 (by omega) (by omega)]; exact h.draw
  · rw [f 145 24 (by omega) (by omega)]; exact h.f2
  · rw [f 145 48 (by omega) (by omega)]; exact h.f3
  · rw [f 145 49 (by omega) (by omega)]; exact h.f4
  · rw [f 145 50 (by omega) (by omega)]; exact h.f5
  · rw [f 145 51 (by omega) (by omega)]; exact h.f6
  · intro j hj; rw [f 155 j (by omega) (by omega)]; exact h.mi j hj
  · intro j hj; rw [f 156 j (by omega) (by omega)]; exact h.vo j hj
  · intro j hj
    have hj' : j < H.k + 1 := hj
    show J.1 157 j = if j = H.k then a else H.sh j
    by_cases q : j = H.k
    · rw [if_pos q, q]; exact e5
    · rw [if_neg q, f 157 j (by omega) (by omega)]; exact h.sh j (by omega)
  · intro j hj
    have hj' : j < H.n := hj
    rw [f2 147 j (by omega) (by omega)]; exact h.mn j hj
  · intro j hj
    have hj' : j < H.k + 1 := hj
    by_cases q : j = H.k
    · rw [q, ← hl, ygw_l, hl]; exact e7
    · rw [ygw_a cn w j (by omega), f2 147 _ (by omega) (by omega)]; exact h.cn j (by omega)
  · rw [f 145 20 (by omega) (by omega)]; exact h.un
  · intro z; exact ⟨by rw [f 145 17 (by omega) (by omega)]; exact (h.ss z).1, fun j hj => by rw [f 148 j (by omega) (by omega), f 149 j (by omega) (by omega)]; exact (h.ss z).2 j hj⟩
theorem yZF_f {mn cn : List (List Nat)} {fl : Nat → Bool} {H : yH} {A J : zIL} {W : List Int32} {u : Int32} (h : yZF mn cn fl H A) (e24 : J.1 145 24 = 1) (e20 : J.1 145 20 = u) (k2 : yk2 W J)
    (f : ∀ c j, ¬ (c = 145 ∧ (j = 4 ∨ (6 ≤ j ∧ j ≤ 8) ∨ j = 2 ∨ j = 3 ∨ j = 17 ∨ j = 19 ∨ j = 20 ∨ (22 ≤ j ∧ j ≤ 24))) → c ≠ 148 → c ≠ 149 → c ≠ 152 → J.1 c j = A.1 c j) (f2 : ∀ c j, ¬ (c = 145 ∧ j = 9) → J.2 c j = A.2 c j) : yZF mn cn (yfu fl 2) (yHf H W u) J := by
  have g : ∀ j, ¬ (j = 4 ∨ (6 ≤ j ∧ j ≤ 8) ∨ j = 2 ∨ j = 3 ∨ j = 17 ∨ j = 19 ∨ j = 20 ∨ (22 ≤ j ∧ j ≤ 24)) → J.1 145 j = A.1 145 j := fun j z => f 145 j (fun q => z q.2) (by decide) (by decide) (by decide)
  refine yZF.mk ?_ ?_ ?_ ?_ ?_ ?_ ?_ e24 ?_ ?_ ?_ ?_ ?_ ?_ ?_ ?_ ?_ e20 (fun _ => k2)
  · rw [g 34 (by omega)]; exact h.nn
  · rw [g 35 (by omega)]; exact h.kk
  · rw [g 36 (by omega)]; exact h.out
  · rw [g 37 (by omega)]; exact h.cock
  · rw [g 38 (by omega)]; exact h.quota
  · rw [g 39 (by omega)]; exact h.puns
  · rw [g 40 (by omega)]; exact h.draw
  · rw [g 48 (by omega)]; exact h.f3
  · rw [g 49 (by omega)]; exact h.f4
  · rw [g 50 (by omega)]; exact h.f5
  · rw [g 51 (by omega)]; exact h.f6
  · intro j hj; rw [f 155 j (by omega) (by decide) (by decide) (by decide)]; exact h.mi j hj
  · intro j hj; rw [f 156 j (by omega) (by decide) (by decide) (by decide)]; exact h.vo j hj
  · intro j hj; rw [f 157 j (by omega) (by decide) (by decide) (by decide)]; exact h.sh j hj
  · intro j hj; rw [f2 147 j (by omega)]; exact h.mn j hj
  · intro j hj; rw [f2 147 _ (by omega)]; exact h.cn j hj
theorem yZF_n {mn cn : List (List Nat)} {fl : Nat → Bool} {H : yH} {A J : zIL} {i : Nat} {v : Int32} (h : yZF mn cn fl H A) (hi : 3 ≤ i) (hi6 : i ≤ 6) (e1 : J.1 145 (45 + i) = 1) (e2 : J.1 145 (34 + i) = v)
    (f : ∀ c j, ¬ (c = 145 ∧ ((2 ≤ j ∧ j ≤ 4) ∨ (6 ≤ j ∧ j ≤ 8) ∨ j = 45 + i ∨ j = 34 + i)) → J.1 c j = A.1 c j) (f2 : ∀ c j, ¬ (c = 145 ∧ j = 9) → J.2 c j = A.2 c j) : yZF mn cn (yfu fl i) (yHn H i v) J := by
  have fl' : ∀ m x, 3 ≤ m → m ≤ 6 → x = 45 + m → A.1 145 x = (if fl m then 1 else 0) → J.1 145 x = (if yfu fl i m then 1 else 0) := by
    intro m x h3 h6 hx e
    show _ = if (if m = i then true else fl m) then (1 : Int32) else 0
    by_cases q : m = i
    · rw [if_pos q, hx, q]; exact e1
    · rw [if_neg q, f 145 x (by omega)]; exact e
  have va : ∀ (m x : Nat) (w : Int32), 3 ≤ m → m ≤ 6 → x = 34 + m → A.1 145 x = w → J.1 145 x = (if i = m then v else w) := by
    intro m x w h3 h6 hx e
    by_cases q : i = m
    · rw [if_pos q, hx, ← q]; exact e2
    · rw [if_neg q, f 145 x (by omega)]; exact e
  refine yZF.mk ?_ ?_ ?_ (va 3 37 _ (by decide) (by decide) rfl h.cock) (va 4 38 _ (by decide) (by decide) rfl h.quota) (va 5 39 _ (by decide) (by decide) rfl h.puns) (va 6 40 _ (by decide) (by decide) rfl h.draw) ?_ (fl' 3 48 (by decide) (by decide) rfl h.f3) (fl' 4 49 (by decide) (by decide) rfl h.f4) (fl' 5 50 (by decide) (by decide) rfl h.f5) (fl' 6 51 (by decide) (by decide) rfl h.f6) ?_ ?_ ?_ ?_ ?_ ?_ ?_
  · rw [f 145 34 (by omega)]; exact h.nn
  · rw [f 145 35 (by omega)]; exact h.kk
  · rw [f 145 36 (by omega)]; exact h.out
  · show _ = if (if 2 = i then true else fl 2) then (1 : Int32) else 0
    rw [if_neg (show ¬ 2 = i by omega), f 145 24 (by omega)]; exact h.f2
  · intro j hj; rw [f 155 j (by omega)]; exact h.mi j hj
  · intro j hj; rw [f 156 j (by omega)]; exact h.vo j hj
  · intro j hj; rw [f 157 j (by omega)]; exact h.sh j hj
  · intro j hj; rw [f2 147 j (by omega)]; exact h.mn j hj
  · intro j hj; rw [f2 147 _ (by omega)]; exact h.cn j hj
  · rw [f 145 20 (by omega)]; exact h.un
  · intro z
    have z' : (if 2 = i then true else fl 2) = true := z
    rw [if_neg (show ¬ 2 = i by omega)] at z'
    exact ⟨by rw [f 145 17 (by omega)]; exact (h.ss z').1, fun j hj => by rw [f 148 j (by omega), f 149 j (by omega)]; exact (h.ss z').2 j hj⟩
def yZM (B : Nat → Nat) (n : Nat) (Z : yZ) (IL : zIL) : Prop := ymt n B IL ∧ ytM Z.tk IL ∧ IL.1 145 2 = 0 ∧ yZF Z.mn Z.cn Z.fl Z.H IL
def yZN (B : Nat → Nat) (n : Nat) (r : Nat × yZ) (IL : zIL) : Prop := (r.1 = 0 → yZM B n r.2 IL) ∧ (r.1 ≠ 0 → ypY r.1 r.2.tk.s IL)
theorem yV_fr {B : Nat → Nat} {n : Nat} {r : Nat × ytkT} {A J : zIL} (h : yV B n r A) (e5 : ∀ j, j ≤ 9 → J.1 145 j = A.1 145 j) (e6 : ∀ j, J.1 146 j = A.1 146 j) (e2 : J.2 = A.2) : yV B n r J := by
  refine ⟨⟨by rw [e5 5 (by decide)]; exact h.1.1, fun j hj => by rw [e6]; exact h.1.2 j hj⟩, h.2.1, h.2.2.1, fun z => ?_, fun z => ?_⟩
  · obtain ⟨⟨a, b, c, d, e, e3⟩, g⟩ := h.2.2.2.1 z
    exact ⟨⟨by rw [e5 6 (by decide)]; exact a, by rw [e5 7 (by decide)]; exact b, fun q => by rw [e5 4 (by decide)]; exact c q, fun q => by rw [e5 8 (by decide)]; exact d q, fun q => by rw [e2]; exact e q, by rw [e5 3 (by decide)]; exact e3⟩, by rw [e5 2 (by decide)]; exact g⟩
  · obtain ⟨a, b⟩ := h.2.2.2.2 z
    exact ⟨by rw [e5 2 (by decide)]; exact a, by rw [e5 3 (by decide)]; exact b⟩
theorem yV_w {B : Nat → Nat} {n : Nat} {r : Nat × ytkT} {A : zIL} {c j : Nat} {v : Int32} (h : yV B n r A) (hc : c ≠ 146) (hj : c = 145 → 9 < j) : yV B n r (zwi A c j v) :=
  yV_fr h (fun i hi => ywi_o (fun z => by have := hj z.1.symm; omega)) (fun i => ywi_o (fun z => hc z.1.symm)) rfl
theorem yV_of {B : Nat → Nat} {n : Nat} {Z : yZ} {IL : zIL} (h : yZM B n Z IL) (hO : ytkO n Z.tk) : yV B n (0, Z.tk) IL := ⟨h.1, hO, Nat.zero_le _, fun _ => ⟨h.2.1, h.2.2.1⟩, fun z => absurd rfl z⟩
section MLINE
variable {xs : List Int32} {d : Nat} {Q : zQ} {t : Bool} {IL : zIL} {B : Nat → Nat} {n : Nat}
theorem m_readMember {Z : yZ} (hn : n ≤ 1600) (hB : ∀ j, j < n → B j < 256) (h : yZM B n Z IL) (hI : yZI n Z) (hk : Z.tk.k = 100) (h7 : Z.H.n < 7)
    (hQ : ∀ IL', yfw IL IL' → yV B n (ym7 B n Z) IL' → ((ym7 B n Z).1 = 0 → yZF (Z.mn ++ [(ynt B n Z.tk).w]) Z.cn Z.fl (yHm Z.H (decide ((ym2 B n Z).2.k = 108)) (nI (ym4 B n Z).2.n) (nI (ym6 B n Z).2.n)) IL') → Q (zFx t, IL') none) : zcall xs (d + 5) 191 (zFx t, IL) [.ref 145] Q := by
  have hF := h.2.2.2
  refine sX8_readMember t IL ?_
  rw [hF.nn]
  refine m_newName (d := d + 1) (f := 0) (m := Z.H.n) (L := Z.mn) hn hB rfl (by omega) h7 hI.2.1 hI.2.2.2.1 (fun j hj => by rw [Nat.zero_add]; exact hF.mn j hj) h.1 hI.1 h.2.1 (by omega) h.2.2.1 (fun I1 a1 a2 V1 e1 => kV ?_)
  rw [Nat.zero_add] at a2 e1
  have V1' : yV B n (ym2 B n Z) I1 := V1
  have e1' : (ym2 B n Z).1 = 0 → I1.2 147 Z.H.n = y8 (ynt B n Z.tk).w := e1
  clear V1 e1
  have m7 : ym7 B n Z = ysp B n (yckn 0 9) (ysp B n (yck 114) (ym5 B n Z)) := rfl
  have m5 : ym5 B n Z = ysp B n (yckn 0 9) (ysp B n (yck 113) (ym3 B n Z)) := rfl
  -- both numbers
  have g55 : ∀ (o : Bool) I3, (∀ c j, ¬ (c = 145 ∧ (j = 2 ∨ j = 3 ∨ j = 4 ∨ (6 ≤ j ∧ j ≤ 8))) → I3.1 c j = IL.1 c j) → (∀ c j, ¬ (c = 145 ∧ j = 9) → ¬ (c = 147 ∧ j = Z.H.n) → I3.2 c j = IL.2 c j) → yV B n (ym3 B n Z) I3 → ((ym3 B n Z).1 = 0 → o = decide ((ym2 B n Z).2.k = 108) ∧ I3.2 147 Z.H.n = y8 (ynt B n Z.tk).w) → gX8_readMember xs (d + 4) Q 55 [.ref 145, .int (if o then 1 else 0)] [] (zFx t, I3) := by
    intro o I3 b1 b2 V3 e3
    refine sX8_readMember_55 t _ I3 ?_
    refine m_told (i := 13) (lo := 0) (hi := 9) hn hB (by decide) (by decide +kernel) rfl rfl (by decide) (by decide) V3 (fun I4 v4 f4 V4 e4 => kI ?_)
    rw [b1 145 34 (by omega), hF.nn, ycl (by omega)]
    have V4' : yV B n (ym5 B n Z) I4 := V4
    refine zix_n h7 (by decide) ?_
    refine m_told (i := 14) (lo := 0) (hi := 9) hn hB (by decide) (by decide +kernel) rfl rfl (by decide) (by decide) (yV_w V4' (c := 155) (j := Z.H.n) (v := v4) (by decide) (fun z => absurd z (by decide))) (fun I5 v5 f5 V5 e5 => kI ?_)
    rw [ywi_o (show ¬ ((145 : Nat) = 155 ∧ 34 = Z.H.n) by omega), f4.1 145 34 (by omega), b1 145 34 (by omega), hF.nn, ycl (by omega)]
    refine zix_n h7 (by decide) ?_
    have V5' : yV B n (ym7 B n Z) (zwi I5 156 Z.H.n v5) := yV_w V5 (by decide) (fun z => absurd z (by decide))
    have W : yfw IL (zwi I5 156 Z.H.n v5) := by
      refine yfw_tr ?_ (yfw_w (Or.inr (by decide)))
      refine yfw_tr ?_ (yfw_y f5)
      refine yfw_tr ?_ (yfw_w (Or.inr (by decide)))
      refine yfw_tr ?_ (yfw_y f4)
      exact ⟨fun c j z => b1 c j (fun q => z (Or.inl ⟨q.1, by omega⟩)), fun c j z1 z2 => b2 c j z1 (fun q => z2 q.1)⟩
    have gg : ∀ c j, ¬ (c = 145 ∧ (j = 2 ∨ j = 3 ∨ j = 4 ∨ (6 ≤ j ∧ j ≤ 8))) → ¬ (c = 155 ∧ j = Z.H.n) → ¬ (c = 156 ∧ j = Z.H.n) → (zwi I5 156 Z.H.n v5).1 c j = IL.1 c j := fun c j z1 z2 z3 => by
      rw [ywi_o z3, f5.1 c j z1, ywi_o z2, f4.1 c j z1, b1 c j z1]
    have g5 : (zwi I5 156 Z.H.n v5).1 155 Z.H.n = v4 := by rw [ywi_o (by omega), f5.1 155 _ (by omega), ywi_s]
    have g6 : (zwi I5 156 Z.H.n v5).1 156 Z.H.n = v5 := ywi_s
    have g2 : ∀ c j, ¬ (c = 145 ∧ j = 9) → (zwi I5 156 Z.H.n v5).2 c j = I3.2 c j := fun c j z => by
      show I5.2 c j = _
      rw [f5.2 c j z]
      exact f4.2 c j z
    generalize zwi I5 156 Z.H.n v5 = J at V5' W gg g5 g6 g2
    refine zdec (fun z => ?_) (fun z => c_truth (b := o) (kI ?_))
    · refine hQ J W V5' (fun q => absurd z (yV_z V5' q))
    · have q7 : (ym7 B n Z).1 = 0 := by
        by_cases q : (ym7 B n Z).1 = 0
        · exact q
        · exact absurd (yV_gt V5' q) z
      rw [m7] at q7
      obtain ⟨q6, _, _⟩ := ysp_0 q7
      obtain ⟨q5, _, _⟩ := ysp_0 q6
      have q5' := q5
      rw [m5] at q5'
      obtain ⟨q4, _, _⟩ := ysp_0 q5'
      obtain ⟨q3, _, _⟩ := ysp_0 q4
      obtain ⟨eo, ew⟩ := e3 q3
      have x4 := e4 q5'
      have x5 := e5 q7
      rw [gg 145 34 (by omega) (by omega) (by omega), gg 145 36 (by omega) (by omega) (by omega), hF.nn, hF.out]
      refine hQ _ (yfw_tr W (yfw_tr (yfw_w (Or.inl ⟨rfl, by decide⟩)) (yfw_w (Or.inl ⟨rfl, by decide⟩)))) (yV_w (yV_w V5' (by decide) (fun _ => by decide)) (by decide) (fun _ => by decide)) (fun _ => ?_)
      refine yZF_m hF hI.2.1 h7 ?_ ?_ ?_ ?_ ?_ ?_ ?_
      · rw [ywi_s, ywi_o (by omega), gg 145 34 (by omega) (by omega) (by omega), hF.nn]; exact nI_1 _
      · rw [ywi_o (by omega), ywi_s, ← eo]
        cases o
        · show _ ||| ((0 : Int32) <<< _) = _
          rw [yshl0 (by omega), yor0]; rfl
        · rfl
      · rw [ywi_o (by omega), ywi_o (by omega), g5]; exact x4
      · rw [ywi_o (by omega), ywi_o (by omega), g6]; exact x5
      · show J.2 147 _ = _
        rw [g2 147 _ (by omega)]; exact ew
      · intro c j z1 z2 z3
        rw [ywi_o (by omega), ywi_o (by omega)]
        exact gg c j (by omega) z2 z3
      · intro c j z1 z2
        show J.2 c j = _
        rw [g2 c j z1]; exact b2 c j z1 z2
  by_cases h0 : (ym2 B n Z).1 = 0
  · obtain ⟨tk2, z2⟩ := V1'.2.2.2.1 h0
    have m3 : ∀ c, ycki (ym2 B n Z).2 = c → ym3 B n Z = if c = 0 then (0, ynt B n (ym2 B n Z).2) else (c, (ym2 B n Z).2) := by
      intro c e
      show ysp B n ycki (ym2 B n Z) = _
      unfold ysp
      rw [if_pos h0, e]
    have good : ∀ o : Bool, o = decide ((ym2 B n Z).2.k = 108) → ((ym2 B n Z).2.k = 107 ∨ (ym2 B n Z).2.k = 108) → gX8_readMember xs (d + 4) Q 44 [.ref 145, .int (if o then 1 else 0)] [] (zFx t, I1) := by
      intro o eo hk2
      have c0 : ycki (ym2 B n Z).2 = 0 := by unfold ycki; rw [if_pos hk2]
      have m3' := m3 0 c0
      rw [if_pos rfl] at m3'
      refine sX8_readMember_44 t _ I1 (zdec (fun _ => m_tokV (d := d + 2) hn hB V1'.1 V1'.2.1 tk2 (by omega) z2 (fun I2 f2 V2 => kV ?_)) (fun z => absurd z2 z))
      rw [← m3'] at V2
      refine g55 o I2 (fun c j z => (f2.1 c j z).trans (a1 c j z)) (fun c j z1 z2 => (f2.2 c j z1).trans (a2 c j z1 z2)) V2 (fun _ => ⟨eo, ?_⟩)
      rw [f2.2 147 _ (by omega)]
      exact e1' h0
    refine zdec (fun z => absurd z (yV_z V1' h0)) (fun _ => m_isWord (d := d + 3) (i := 8) (by decide) (by decide +kernel) tk2 V1'.2.1.2 (fun e8 => kI (z1 (good true (decide_eq_true e8).symm (Or.inr e8)))) (fun e8 => kI (z0 (m_isWord (d := d + 3) (i := 7) (by decide) (by decide +kernel) tk2 V1'.2.1.2 (fun e7 => kI (z1 (good false (decide_eq_false (by omega)).symm (Or.inl e7)))) (fun e7 => kI (z0 (m_wrongV (d := d + 3) (c := 2) rfl (by decide) (by decide) V1'.1 V1'.2.1 tk2 z2 (fun I2 f2 V2 => kV ?_))))))))
    have c0 : ycki (ym2 B n Z).2 = yrf (ym2 B n Z).2 := by unfold ycki; rw [if_neg (by omega)]
    have m3' := m3 _ c0
    rw [if_neg (yrf_2 _).2] at m3'
    have V2' : yV B n (ym3 B n Z) I2 := by rw [m3']; exact V2
    have n3 : (ym3 B n Z).1 ≠ 0 := by rw [m3']; exact (yrf_2 _).2
    exact sX8_readMember_44 t _ I2 (zdec (fun z => absurd z (yV_ne V2' n3)) (fun _ => g55 false I2 (fun c j z => (f2.1 c j z).trans (a1 c j z)) (fun c j z1 z2 => (f2.2 c j z1).trans (a2 c j z1 z2)) V2' (fun z => absurd z n3)))
  · have m7x : ym7 B n Z = ym2 B n Z := by
      unfold ym7 ym6 ym5 ym4 ym3
      rw [ysp_x h0, ysp_x h0, ysp_x h0, ysp_x h0, ysp_x h0]
    refine zdec (fun _ => hQ I1 ⟨fun c j z => a1 c j (fun q => z (Or.inl ⟨q.1, by omega⟩)), fun c j z1 z2 => a2 c j z1 (fun q => z2 q.1)⟩ (by rw [m7x]; exact V1') (fun z => ?_)) (fun z => absurd (yV_gt V1' h0) z)
    rw [m7x] at z
    exact absurd z h0
theorem m_readClause {Z : yZ} (hn : n ≤ 1600) (hB : ∀ j, j < n → B j < 256) (h : yZM B n Z IL) (hI : yZI n Z) (hk : Z.tk.k = 101) (h7 : Z.H.k < 6)
    (hQ : ∀ IL', yfw IL IL' → yV B n (yc4 B n Z) IL' → ((yc4 B n Z).1 = 0 → yZF Z.mn (Z.cn ++ [(ynt B n Z.tk).w]) Z.fl (yHc Z.H (nI (yc3 B n Z).2.n)) IL') → Q (zFx t, IL') none) : zcall xs (d + 5) 192 (zFx t, IL) [.ref 145] Q := by
  have hF := h.2.2.2
  refine sX8_readClause t IL ?_
  rw [hF.kk]
  refine m_newName (d := d + 1) (f := 7) (m := Z.H.k) (L := Z.cn) hn hB rfl (by omega) (by omega) hI.2.2.1 hI.2.2.2.2.1 hF.cn h.1 hI.1 h.2.1 (by omega) h.2.2.1 (fun I1 a1 a2 V1 e1 => kV ?_)
  have V1' : yV B n (yc2 B n Z) I1 := V1
  have e1' : (yc2 B n Z).1 = 0 → I1.2 147 (7 + Z.H.k) = y8 (ynt B n Z.tk).w := e1
  clear V1 e1
  have c4 : yc4 B n Z = ysp B n (yckn 0 20) (ysp B n (yck 112) (yc2 B n Z)) := rfl
  refine m_told (i := 12) (lo := 0) (hi := 20) hn hB (by decide) (by decide +kernel) rfl rfl (by decide) (by decide) V1' (fun I4 v4 f4 V4 e4 => kI ?_)
  rw [a1 145 35 (by omega), hF.kk, ycl (by omega)]
  refine zix_n h7 (by decide) ?_
  have V5' : yV B n (yc4 B n Z) (zwi I4 157 Z.H.k v4) := yV_w V4 (by decide) (fun z => absurd z (by decide))
  have W : yfw IL (zwi I4 157 Z.H.k v4) := by
    refine yfw_tr ?_ (yfw_w (Or.inr (by decide)))
    refine yfw_tr ?_ (yfw_y f4)
    exact ⟨fun c j z => a1 c j (fun q => z (Or.inl ⟨q.1, by omega⟩)), fun c j z1 z2 => a2 c j z1 (fun q => z2 q.1)⟩
  have gg : ∀ c j, ¬ (c = 145 ∧ (j = 2 ∨ j = 3 ∨ j = 4 ∨ (6 ≤ j ∧ j ≤ 8))) → ¬ (c = 157 ∧ j = Z.H.k) → (zwi I4 157 Z.H.k v4).1 c j = IL.1 c j := fun c j z1 z2 => by
    rw [ywi_o z2, f4.1 c j z1, a1 c j z1]
  have g5 : (zwi I4 157 Z.H.k v4).1 157 Z.H.k = v4 := ywi_s
  have g2 : ∀ c j, ¬ (c = 145 ∧ j = 9) → (zwi I4 157 Z.H.k v4).2 c j = I1.2 c j := fun c j z => f4.2 c j z
  generalize zwi I4 157 Z.H.k v4 = J at V5' W gg g5 g2
  refine zdec (fun z => ?_) (fun z => ?_)
  · have q4 : (yc4 B n Z).1 = 0 := by
      by_cases q : (yc4 B n Z).1 = 0
      · exact q
      · exact absurd z (yV_ne V5' q)
    have q4' := q4
    rw [c4] at q4'
    obtain ⟨q3, _, _⟩ := ysp_0 q4'
    obtain ⟨q2, _, _⟩ := ysp_0 q3
    have x4 := e4 q4'
    rw [gg 145 35 (by omega) (by omega), hF.kk]
    refine hQ _ (yfw_tr W (yfw_w (Or.inl ⟨rfl, by decide⟩))) (yV_w V5' (by decide) (fun _ => by decide)) (fun _ => ?_)
    refine yZF_c hF hI.2.2.1 ?_ hI.2.2.2.2.2.1.n7 ?_ ?_ ?_ ?_
    · rw [ywi_s]; exact nI_1 _
    · rw [ywi_o (by omega), g5]; exact x4
    · show J.2 147 _ = _
      rw [g2 147 _ (by omega)]; exact e1' q2
    · intro c j z1 z2
      rw [ywi_o (by omega)]
      exact gg c j (by omega) z2
    · intro c j z1 z2
      show J.2 c j = _
      rw [g2 c j z1]; exact a2 c j z1 z2
  · refine hQ J W V5' (fun q => absurd (V5'.2.2.2.1 q).2 z)
end MLINE
