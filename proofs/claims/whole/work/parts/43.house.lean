/-! a House and a State as data; what the class and the model hold of them -/
structure yH where
  n : Nat
  k : Nat
  mi : Nat → Int32
  vo : Nat → Int32
  sh : Nat → Int32
  out : Int32
  cock : Int32
  quota : Int32
  puns : Int32
  draw : Int32
  ss : List Int32
  units : Int32
/-- within these least and most -/
def yin (x : Int32) (a b : Int) : Prop := a ≤ x.toInt ∧ x.toInt ≤ b
structure yOK (H : yH) : Prop where
  n7 : H.n ≤ 7
  k6 : H.k ≤ 6
  mi : ∀ j, j < H.n → yin (H.mi j) 0 9
  vo : ∀ j, j < H.n → yin (H.vo j) 0 9
  sh : ∀ j, j < H.k → yin (H.sh j) 0 20
  out : ∀ i, H.n ≤ i → bt H.out i = false
  cock : yin H.cock 1 30
  quota : yin H.quota 0 99
  puns : yin H.puns 0 100
  draw : yin H.draw 0 999
  ss : zsok H.ss
  bk : ∀ s, s ∈ H.ss → s < 0 → -s < 112 → ¬ -s = 111 → ybin (-s)
structure yCH (u : Bool) (H : yH) (IL : zIL) : Prop where
  mem : IL.1 (zH u) 0 = nI H.n
  out : IL.1 (zH u) 1 = H.out
  cla : IL.1 (zH u) 4 = nI H.k
  cock : IL.1 (zH u) 6 = H.cock
  quota : IL.1 (zH u) 7 = H.quota
  puns : IL.1 (zH u) 8 = H.puns
  draw : IL.1 (zH u) 9 = H.draw
  mi : ∀ j, j < H.n → IL.1 (zH u + 1) j = H.mi j
  vo : ∀ j, j < H.n → IL.1 (zH u + 2) j = H.vo j
  sh : ∀ j, j < H.k → IL.1 (zH u + 3) j = H.sh j
  len : IL.1 (zH u + 4) 0 = nI H.ss.length
  units : IL.1 (zH u + 4) 1 = H.units
  ss : ∀ j, j < H.ss.length → IL.1 (zH u + 6) j = H.ss.getD j 0
structure yMH (H : yH) (IL : zIL) : Prop where
  mem : IL.1 145 41 = nI H.n
  cla : IL.1 145 42 = nI H.k
  out : IL.1 145 43 = H.out
  cock : IL.1 145 44 = H.cock
  quota : IL.1 145 45 = H.quota
  puns : IL.1 145 46 = H.puns
  mi : ∀ j, j < H.n → IL.1 158 j = H.mi j
  vo : ∀ j, j < H.n → IL.1 159 j = H.vo j
  sh : ∀ j, j < H.k → IL.1 160 j = H.sh j
  len : IL.1 145 18 = nI H.ss.length
  units : IL.1 145 21 = H.units
  form : IL.1 145 25 = 0 ↔ H.ss = []
  ss : ∀ j, j < H.ss.length → IL.1 150 j = yst (H.ss.getD j 0) ∧ IL.1 151 j = yar (H.ss.getD j 0)
/-- what may change: slots that p tells -/
def yfm (p : Nat → Nat → Bool) (A B : zIL) : Prop := (∀ c j, p c j = false → B.1 c j = A.1 c j) ∧ B.2 = A.2
theorem yfm_rf {p : Nat → Nat → Bool} {A : zIL} : yfm p A A := ⟨fun _ _ _ => rfl, rfl⟩
theorem yfm_tr {p : Nat → Nat → Bool} {A B C : zIL} (h1 : yfm p A B) (h2 : yfm p B C) : yfm p A C := ⟨fun c j h => (h2.1 c j h).trans (h1.1 c j h), h2.2.trans h1.2⟩
theorem yfm_le {p q : Nat → Nat → Bool} {A B : zIL} (h : yfm p A B) (hq : ∀ c j, q c j = false → p c j = false) : yfm q A B := ⟨fun c j z => h.1 c j (hq c j z), h.2⟩
theorem yfm_wi {p : Nat → Nat → Bool} {A : zIL} {c j : Nat} {v : Int32} (h : p c j = true) : yfm p A (zwi A c j v) := ⟨fun c' j' z => by
  by_cases e : c' = c
  · subst e
    rw [zwi_at]
    by_cases e2 : j' = j
    · subst e2; rw [h] at z; cases z
    · rw [if_neg e2]
  · rw [zwi_ne e], rfl⟩
theorem yfm_zfr {cs : List Nat} {p : Nat → Nat → Bool} {A B : zIL} (h : zfr cs A B) (hp : ∀ c, c ∈ cs → ∀ j, p c j = true) : yfm p A B := ⟨fun c j z => by
  rw [h.1 c (fun hc => by rw [hp c hc j] at z; cases z)], h.2⟩
theorem yCH.fr {u : Bool} {H : yH} {A B : zIL} (h : yCH u H A) (hc : ∀ i, i < 8 → i ≠ 5 → i ≠ 7 → B.1 (zH u + i) = A.1 (zH u + i)) : yCH u H B := by
  have h0 : B.1 (zH u) = A.1 (zH u) := hc 0 (by decide) (by decide) (by decide)
  have h1 := hc 1 (by decide) (by decide) (by decide)
  have h2 := hc 2 (by decide) (by decide) (by decide)
  have h3 := hc 3 (by decide) (by decide) (by decide)
  have h4 := hc 4 (by decide) (by decide) (by decide)
  have h6 := hc 6 (by decide) (by decide) (by decide)
  exact ⟨by rw [h0]; exact h.mem, by rw [h0]; exact h.out, by rw [h0]; exact h.cla, by rw [h0]; exact h.cock, by rw [h0]; exact h.quota, by rw [h0]; exact h.puns, by rw [h0]; exact h.draw, by rw [h1]; exact h.mi, by rw [h2]; exact h.vo, by rw [h3]; exact h.sh, by rw [h4]; exact h.len, by rw [h4]; exact h.units, by rw [h6]; exact h.ss⟩
/-- slots of the model's House -/
def yMHs (c j : Nat) : Bool := (c == 145 && (j == 41 || j == 42 || j == 43 || j == 44 || j == 45 || j == 46 || j == 18 || j == 21 || j == 25)) || c == 158 || c == 159 || c == 160 || c == 150 || c == 151
theorem yMH.fr {H : yH} {A B : zIL} (h : yMH H A) (hc : ∀ c j, yMHs c j = true → B.1 c j = A.1 c j) : yMH H B :=
  ⟨by rw [hc 145 41 rfl]; exact h.mem, by rw [hc 145 42 rfl]; exact h.cla, by rw [hc 145 43 rfl]; exact h.out, by rw [hc 145 44 rfl]; exact h.cock, by rw [hc 145 45 rfl]; exact h.quota, by rw [hc 145 46 rfl]; exact h.puns, fun j hj => by rw [hc 158 j rfl]; exact h.mi j hj, fun j hj => by rw [hc 159 j rfl]; exact h.vo j hj, fun j hj => by rw [hc 160 j rfl]; exact h.sh j hj, by rw [hc 145 18 rfl]; exact h.len, by rw [hc 145 21 rfl]; exact h.units, by rw [hc 145 25 rfl]; exact h.form, fun j hj => by rw [hc 150 j rfl, hc 151 j rfl]; exact h.ss j hj⟩
/-- a State: 0-6 notches, 7 out, 8 read, 9 carried, 10 seed -/
structure yCS (s : Nat) (S : Nat → Int32) (IL : zIL) : Prop where
  no : ∀ j, j < 7 → IL.1 (s + 1) j = S j
  out : IL.1 s 1 = S 7
  read : IL.1 s 2 = S 8
  car : IL.1 s 3 = S 9
  seed : IL.1 s 4 = S 10
def yMS (c : Nat) (S : Nat → Int32) (IL : zIL) : Prop := ∀ j, j < 11 → IL.1 c j = S j
theorem yCS.fr {s : Nat} {S : Nat → Int32} {A B : zIL} (h : yCS s S A) (h0 : B.1 s = A.1 s) (h1 : B.1 (s + 1) = A.1 (s + 1)) : yCS s S B :=
  ⟨by rw [h1]; exact h.no, by rw [h0]; exact h.out, by rw [h0]; exact h.read, by rw [h0]; exact h.car, by rw [h0]; exact h.seed⟩
theorem yMS.fr {c : Nat} {S : Nat → Int32} {A B : zIL} (h : yMS c S A) (h0 : B.1 c = A.1 c) : yMS c S B := fun j hj => by rw [h0]; exact h j hj
structure ySB (H : yH) (S : Nat → Int32) : Prop where
  no : ∀ j, j < 7 → yin (S j) 0 30
  inn : ∀ j, j < 7 → bt (S 7) j = false → S j = 0
  out : ∀ i, H.n ≤ i → bt (S 7) i = false
  read : ∀ i, H.k ≤ i → bt (S 8) i = false
  car : ∀ i, H.k ≤ i → bt (S 9) i = false
  seed : yin (S 10) 0 999
