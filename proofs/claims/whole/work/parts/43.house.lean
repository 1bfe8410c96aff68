/-! a House and a State as data; what the class and the model hold of them -/
def yH : Type := (Nat) × (Nat) × (Nat → Int32) × (Nat → Int32) × (Nat → Int32) × (Int32) × (Int32) × (Int32) × (Int32) × (Int32) × (List Int32) × (Int32)
def yH.n (h : yH) : Nat := h.1
def yH.k (h : yH) : Nat := h.2.1
def yH.mi (h : yH) : Nat → Int32 := h.2.2.1
def yH.vo (h : yH) : Nat → Int32 := h.2.2.2.1
def yH.sh (h : yH) : Nat → Int32 := h.2.2.2.2.1
def yH.out (h : yH) : Int32 := h.2.2.2.2.2.1
def yH.cock (h : yH) : Int32 := h.2.2.2.2.2.2.1
def yH.quota (h : yH) : Int32 := h.2.2.2.2.2.2.2.1
def yH.puns (h : yH) : Int32 := h.2.2.2.2.2.2.2.2.1
def yH.draw (h : yH) : Int32 := h.2.2.2.2.2.2.2.2.2.1
def yH.ss (h : yH) : List Int32 := h.2.2.2.2.2.2.2.2.2.2.1
def yH.units (h : yH) : Int32 := h.2.2.2.2.2.2.2.2.2.2.2
def yH.mk (n_ : Nat) (k_ : Nat) (mi_ : Nat → Int32) (vo_ : Nat → Int32) (sh_ : Nat → Int32) (out_ : Int32) (cock_ : Int32) (quota_ : Int32) (puns_ : Int32) (draw_ : Int32) (ss_ : List Int32) (units_ : Int32) : yH := (n_, k_, mi_, vo_, sh_, out_, cock_, quota_, puns_, draw_, ss_, units_)
def yH.w_n (h : yH) (v : Nat) : yH := (v, h.2.1, h.2.2.1, h.2.2.2.1, h.2.2.2.2.1, h.2.2.2.2.2.1, h.2.2.2.2.2.2.1, h.2.2.2.2.2.2.2.1, h.2.2.2.2.2.2.2.2.1, h.2.2.2.2.2.2.2.2.2.1, h.2.2.2.2.2.2.2.2.2.2.1, h.2.2.2.2.2.2.2.2.2.2.2)
def yH.w_k (h : yH) (v : Nat) : yH := (h.1, v, h.2.2.1, h.2.2.2.1, h.2.2.2.2.1, h.2.2.2.2.2.1, h.2.2.2.2.2.2.1, h.2.2.2.2.2.2.2.1, h.2.2.2.2.2.2.2.2.1, h.2.2.2.2.2.2.2.2.2.1, h.2.2.2.2.2.2.2.2.2.2.1, h.2.2.2.2.2.2.2.2.2.2.2)
def yH.w_mi (h : yH) (v : Nat → Int32) : yH := (h.1, h.2.1, v, h.2.2.2.1, h.2.2.2.2.1, h.2.2.2.2.2.1, h.2.2.2.2.2.2.1, h.2.2.2.2.2.2.2.1, h.2.2.2.2.2.2.2.2.1, h.2.2.2.2.2.2.2.2.2.1, h.2.2.2.2.2.2.2.2.2.2.1, h.2.2.2.2.2.2.2.2.2.2.2)
def yH.w_vo (h : yH) (v : Nat → Int32) : yH := (h.1, h.2.1, h.2.2.1, v, h.2.2.2.2.1, h.2.2.2.2.2.1, h.2.2.2.2.2.2.1, h.2.2.2.2.2.2.2.1, h.2.2.2.2.2.2.2.2.1, h.2.2.2.2.2.2.2.2.2.1, h.2.2.2.2.2.2.2.2.2.2.1, h.2.2.2.2.2.2.2.2.2.2.2)
def yH.w_sh (h : yH) (v : Nat → Int32) : yH := (h.1, h.2.1, h.2.2.1, h.2.2.2.1, v, h.2.2.2.2.2.1, h.2.2.2.2.2.2.1, h.2.2.2.2.2.2.2.1, h.2.2.2.2.2.2.2.2.1, h.2.2.2.2.2.2.2.2.2.1, h.2.2.2.2.2.2.2.2.2.2.1, h.2.2.2.2.2.2.2.2.2.2.2)
def yH.w_out (h : yH) (v : Int32) : yH := (h.1, h.2.1, h.2.2.1, h.2.2.2.1, h.2.2.2.2.1, v, h.2.2.2.2.2.2.1, h.2.2.2.2.2.2.2.1, h.2.2.2.2.2.2.2.2.1, h.2.2.2.2.2.2.2.2.2.1, h.2.2.2.2.2.2.2.2.2.2.1, h.2.2.2.2.2.2.2.2.2.2.2)
def yH.w_cock (h : yH) (v : Int32) : yH := (h.1, h.2.1, h.2.2.1, h.2.2.2.1, h.2.2.2.2.1, h.2.2.2.2.2.1, v, h.2.2.2.2.2.2.2.1, h.2.2.2.2.2.2.2.2.1, h.2.2.2.2.2.2.2.2.2.1, h.2.2.2.2.2.2.2.2.2.2.1, h.2.2.2.2.2.2.2.2.2.2.2)
def yH.w_quota (h : yH) (v : Int32) : yH := (h.1, h.2.1, h.2.2.1, h.2.2.2.1, h.2.2.2.2.1, h.2.2.2.2.2.1, h.2.2.2.2.2.2.1, v, h.2.2.2.2.2.2.2.2.1, h.2.2.2.2.2.2.2.2.2.1, h.2.2.2.2.2.2.2.2.2.2.1, h.2.2.2.2.2.2.2.2.2.2.2)
def yH.w_puns (h : yH) (v : Int32) : yH := (h.1, h.2.1, h.2.2.1, h.2.2.2.1, h.2.2.2.2.1, h.2.2.2.2.2.1, h.2.2.2.2.2.2.1, h.2.2.2.2.2.2.2.1, v, h.2.2.2.2.2.2.2.2.2.1, h.2.2.2.2.2.2.2.2.2.2.1, h.2.2.2.2.2.2.2.2.2.2.2)
def yH.w_draw (h : yH) (v : Int32) : yH := (h.1, h.2.1, h.2.2.1, h.2.2.2.1, h.2.2.2.2.1, h.2.2.2.2.2.1, h.2.2.2.2.2.2.1, h.2.2.2.2.2.2.2.1, h.2.2.2.2.2.2.2.2.1, v, h.2.2.2.2.2.2.2.2.2.2.1, h.2.2.2.2.2.2.2.2.2.2.2)
def yH.w_ss (h : yH) (v : List Int32) : yH := (h.1, h.2.1, h.2.2.1, h.2.2.2.1, h.2.2.2.2.1, h.2.2.2.2.2.1, h.2.2.2.2.2.2.1, h.2.2.2.2.2.2.2.1, h.2.2.2.2.2.2.2.2.1, h.2.2.2.2.2.2.2.2.2.1, v, h.2.2.2.2.2.2.2.2.2.2.2)
def yH.w_units (h : yH) (v : Int32) : yH := (h.1, h.2.1, h.2.2.1, h.2.2.2.1, h.2.2.2.2.1, h.2.2.2.2.2.1, h.2.2.2.2.2.2.1, h.2.2.2.2.2.2.2.1, h.2.2.2.2.2.2.2.2.1, h.2.2.2.2.2.2.2.2.2.1, h.2.2.2.2.2.2.2.2.2.2.1, v)
/-- within these least and most -/
def yin (x : Int32) (a b : Int) : Prop := a ≤ x.toInt ∧ x.toInt ≤ b
def yOK (H : yH) : Prop := (H.n ≤ 7) ∧ (H.k ≤ 6) ∧ (∀ j, j < H.n → yin (H.mi j) 0 9) ∧ (∀ j, j < H.n → yin (H.vo j) 0 9) ∧ (∀ j, j < H.k → yin (H.sh j) 0 20) ∧ (∀ i, H.n ≤ i → bt H.out i = false) ∧ (yin H.cock 1 30) ∧ (yin H.quota 0 99) ∧ (yin H.puns 0 100) ∧ (yin H.draw 0 999) ∧ (zsok H.ss) ∧ (∀ s, s ∈ H.ss → s < 0 → -s < 112 → ¬ -s = 111 → ybin (-s))
theorem yOK.n7 {H : yH} (h : yOK H) : H.n ≤ 7 := h.1
theorem yOK.k6 {H : yH} (h : yOK H) : H.k ≤ 6 := h.2.1
theorem yOK.mi {H : yH} (h : yOK H) : ∀ j, j < H.n → yin (H.mi j) 0 9 := h.2.2.1
theorem yOK.vo {H : yH} (h : yOK H) : ∀ j, j < H.n → yin (H.vo j) 0 9 := h.2.2.2.1
theorem yOK.sh {H : yH} (h : yOK H) : ∀ j, j < H.k → yin (H.sh j) 0 20 := h.2.2.2.2.1
theorem yOK.out {H : yH} (h : yOK H) : ∀ i, H.n ≤ i → bt H.out i = false := h.2.2.2.2.2.1
theorem yOK.cock {H : yH} (h : yOK H) : yin H.cock 1 30 := h.2.2.2.2.2.2.1
theorem yOK.quota {H : yH} (h : yOK H) : yin H.quota 0 99 := h.2.2.2.2.2.2.2.1
theorem yOK.puns {H : yH} (h : yOK H) : yin H.puns 0 100 := h.2.2.2.2.2.2.2.2.1
theorem yOK.draw {H : yH} (h : yOK H) : yin H.draw 0 999 := h.2.2.2.2.2.2.2.2.2.1
theorem yOK.ss {H : yH} (h : yOK H) : zsok H.ss := h.2.2.2.2.2.2.2.2.2.2.1
theorem yOK.bk {H : yH} (h : yOK H) : ∀ s, s ∈ H.ss → s < 0 → -s < 112 → ¬ -s = 111 → ybin (-s) := h.2.2.2.2.2.2.2.2.2.2.2
theorem yOK.mk {H : yH} (n7_ : H.n ≤ 7) (k6_ : H.k ≤ 6) (mi_ : ∀ j, j < H.n → yin (H.mi j) 0 9) (vo_ : ∀ j, j < H.n → yin (H.vo j) 0 9) (sh_ : ∀ j, j < H.k → yin (H.sh j) 0 20) (out_ : ∀ i, H.n ≤ i → bt H.out i = false) (cock_ : yin H.cock 1 30) (quota_ : yin H.quota 0 99) (puns_ : yin H.puns 0 100) (draw_ : yin H.draw 0 999) (ss_ : zsok H.ss) (bk_ : ∀ s, s ∈ H.ss → s < 0 → -s < 112 → ¬ -s = 111 → ybin (-s)) : yOK H := show (H.n ≤ 7) ∧ (H.k ≤ 6) ∧ (∀ j, j < H.n → yin (H.mi j) 0 9) ∧ (∀ j, j < H.n → yin (H.vo j) 0 9) ∧ (∀ j, j < H.k → yin (H.sh j) 0 20) ∧ (∀ i, H.n ≤ i → bt H.out i = false) ∧ (yin H.cock 1 30) ∧ (yin H.quota 0 99) ∧ (yin H.puns 0 100) ∧ (yin H.draw 0 999) ∧ (zsok H.ss) ∧ (∀ s, s ∈ H.ss → s < 0 → -s < 112 → ¬ -s = 111 → ybin (-s)) from ⟨n7_, k6_, mi_, vo_, sh_, out_, cock_, quota_, puns_, draw_, ss_, bk_⟩
def yCH (u : Bool) (H : yH) (IL : zIL) : Prop := (IL.1 (zH u) 0 = nI H.n) ∧ (IL.1 (zH u) 1 = H.out) ∧ (IL.1 (zH u) 4 = nI H.k) ∧ (IL.1 (zH u) 6 = H.cock) ∧ (IL.1 (zH u) 7 = H.quota) ∧ (IL.1 (zH u) 8 = H.puns) ∧ (IL.1 (zH u) 9 = H.draw) ∧ (∀ j, j < H.n → IL.1 (zH u + 1) j = H.mi j) ∧ (∀ j, j < H.n → IL.1 (zH u + 2) j = H.vo j) ∧ (∀ j, j < H.k → IL.1 (zH u + 3) j = H.sh j) ∧ (IL.1 (zH u + 4) 0 = nI H.ss.length) ∧ (IL.1 (zH u + 4) 1 = H.units) ∧ (∀ j, j < H.ss.length → IL.1 (zH u + 6) j = H.ss.getD j 0)
theorem yCH.mem {u : Bool} {H : yH} {IL : zIL} (h : yCH u H IL) : IL.1 (zH u) 0 = nI H.n := h.1
theorem yCH.out {u : Bool} {H : yH} {IL : zIL} (h : yCH u H IL) : IL.1 (zH u) 1 = H.out := h.2.1
theorem yCH.cla {u : Bool} {H : yH} {IL : zIL} (h : yCH u H IL) : IL.1 (zH u) 4 = nI H.k := h.2.2.1
theorem yCH.cock {u : Bool} {H : yH} {IL : zIL} (h : yCH u H IL) : IL.1 (zH u) 6 = H.cock := h.2.2.2.1
theorem yCH.quota {u : Bool} {H : yH} {IL : zIL} (h : yCH u H IL) : IL.1 (zH u) 7 = H.quota := h.2.2.2.2.1
theorem yCH.puns {u : Bool} {H : yH} {IL : zIL} (h : yCH u H IL) : IL.1 (zH u) 8 = H.puns := h.2.2.2.2.2.1
theorem yCH.draw {u : Bool} {H : yH} {IL : zIL} (h : yCH u H IL) : IL.1 (zH u) 9 = H.draw := h.2.2.2.2.2.2.1
theorem yCH.mi {u : Bool} {H : yH} {IL : zIL} (h : yCH u H IL) : ∀ j, j < H.n → IL.1 (zH u + 1) j = H.mi j := h.2.2.2.2.2.2.2.1
theorem yCH.vo {u : Bool} {H : yH} {IL : zIL} (h : yCH u H IL) : ∀ j, j < H.n → IL.1 (zH u + 2) j = H.vo j := h.2.2.2.2.2.2.2.2.1
theorem yCH.sh {u : Bool} {H : yH} {IL : zIL} (h : yCH u H IL) : ∀ j, j < H.k → IL.1 (zH u + 3) j = H.sh j := h.2.2.2.2.2.2.2.2.2.1
theorem yCH.len {u : Bool} {H : yH} {IL : zIL} (h : yCH u H IL) : IL.1 (zH u + 4) 0 = nI H.ss.length := h.2.2.2.2.2.2.2.2.2.2.1
theorem yCH.units {u : Bool} {H : yH} {IL : zIL} (h : yCH u H IL) : IL.1 (zH u + 4) 1 = H.units := h.2.2.2.2.2.2.2.2.2.2.2.1
theorem yCH.ss {u : Bool} {H : yH} {IL : zIL} (h : yCH u H IL) : ∀ j, j < H.ss.length → IL.1 (zH u + 6) j = H.ss.getD j 0 := h.2.2.2.2.2.2.2.2.2.2.2.2
theorem yCH.mk {u : Bool} {H : yH} {IL : zIL} (mem_ : IL.1 (zH u) 0 = nI H.n) (out_ : IL.1 (zH u) 1 = H.out) (cla_ : IL.1 (zH u) 4 = nI H.k) (cock_ : IL.1 (zH u) 6 = H.cock) (quota_ : IL.1 (zH u) 7 = H.quota) (puns_ : IL.1 (zH u) 8 = H.puns) (draw_ : IL.1 (zH u) 9 = H.draw) (mi_ : ∀ j, j < H.n → IL.1 (zH u + 1) j = H.mi j) (vo_ : ∀ j, j < H.n → IL.1 (zH u + 2) j = H.vo j) (sh_ : ∀ j, j < H.k → IL.1 (zH u + 3) j = H.sh j) (len_ : IL.1 (zH u + 4) 0 = nI H.ss.length) (units_ : IL.1 (zH u + 4) 1 = H.units) (ss_ : ∀ j, j < H.ss.length → IL.1 (zH u + 6) j = H.ss.getD j 0) : yCH u H IL := show (IL.1 (zH u) 0 = nI H.n) ∧ (IL.1 (zH u) 1 = H.out) ∧ (IL.1 (zH u) 4 = nI H.k) ∧ (IL.1 (zH u) 6 = H.cock) ∧ (IL.1 (zH u) 7 = H.quota) ∧ (IL.1 (zH u) 8 = H.puns) ∧ (IL.1 (zH u) 9 = H.draw) ∧ (∀ j, j < H.n → IL.1 (zH u + 1) j = H.mi j) ∧ (∀ j, j < H.n → IL.1 (zH u + 2) j = H.vo j) ∧ (∀ j, j < H.k → IL.1 (zH u + 3) j = H.sh j) ∧ (IL.1 (zH u + 4) 0 = nI H.ss.length) ∧ (IL.1 (zH u + 4) 1 = H.units) ∧ (∀ j, j < H.ss.length → IL.1 (zH u + 6) j = H.ss.getD j 0) from ⟨mem_, out_, cla_, cock_, quota_, puns_, draw_, mi_, vo_, sh_, len_, units_, ss_⟩
def yMH (H : yH) (IL : zIL) : Prop := (IL.1 145 41 = nI H.n) ∧ (IL.1 145 42 = nI H.k) ∧ (IL.1 145 43 = H.out) ∧ (IL.1 145 44 = H.cock) ∧ (IL.1 145 45 = H.quota) ∧ (IL.1 145 46 = H.puns) ∧ (∀ j, j < H.n → IL.1 158 j = H.mi j) ∧ (∀ j, j < H.n → IL.1 159 j = H.vo j) ∧ (∀ j, j < H.k → IL.1 160 j = H.sh j) ∧ (IL.1 145 18 = nI H.ss.length) ∧ (IL.1 145 21 = H.units) ∧ (IL.1 145 25 = 0 ↔ H.ss = []) ∧ (∀ j, j < H.ss.length → IL.1 150 j = yst (H.ss.getD j 0) ∧ IL.1 151 j = yar (H.ss.getD j 0))
theorem yMH.mem {H : yH} {IL : zIL} (h : yMH H IL) : IL.1 145 41 = nI H.n := h.1
theorem yMH.cla {H : yH} {IL : zIL} (h : yMH H IL) : IL.1 145 42 = nI H.k := h.2.1
theorem yMH.out {H : yH} {IL : zIL} (h : yMH H IL) : IL.1 145 43 = H.out := h.2.2.1
theorem yMH.cock {H : yH} {IL : zIL} (h : yMH H IL) : IL.1 145 44 = H.cock := h.2.2.2.1
theorem yMH.quota {H : yH} {IL : zIL} (h : yMH H IL) : IL.1 145 45 = H.quota := h.2.2.2.2.1
theorem yMH.puns {H : yH} {IL : zIL} (h : yMH H IL) : IL.1 145 46 = H.puns := h.2.2.2.2.2.1
theorem yMH.mi {H : yH} {IL : zIL} (h : yMH H IL) : ∀ j, j < H.n → IL.1 158 j = H.mi j := h.2.2.2.2.2.2.1
theorem yMH.vo {H : yH} {IL : zIL} (h : yMH H IL) : ∀ j, j < H.n → IL.1 159 j = H.vo j := h.2.2.2.2.2.2.2.1
theorem yMH.sh {H : yH} {IL : zIL} (h : yMH H IL) : ∀ j, j < H.k → IL.1 160 j = H.sh j := h.2.2.2.2.2.2.2.2.1
theorem yMH.len {H : yH} {IL : zIL} (h : yMH H IL) : IL.1 145 18 = nI H.ss.length := h.2.2.2.2.2.2.2.2.2.1
theorem yMH.units {H : yH} {IL : zIL} (h : yMH H IL) : IL.1 145 21 = H.units := h.2.2.2.2.2.2.2.2.2.2.1
theorem yMH.form {H : yH} {IL : zIL} (h : yMH H IL) : IL.1 145 25 = 0 ↔ H.ss = [] := h.2.2.2.2.2.2.2.2.2.2.2.1
theorem yMH.ss {H : yH} {IL : zIL} (h : yMH H IL) : ∀ j, j < H.ss.length → IL.1 150 j = yst (H.ss.getD j 0) ∧ IL.1 151 j = yar (H.ss.getD j 0) := h.2.2.2.2.2.2.2.2.2.2.2.2
theorem yMH.mk {H : yH} {IL : zIL} (mem_ : IL.1 145 41 = nI H.n) (cla_ : IL.1 145 42 = nI H.k) (out_ : IL.1 145 43 = H.out) (cock_ : IL.1 145 44 = H.cock) (quota_ : IL.1 145 45 = H.quota) (puns_ : IL.1 145 46 = H.puns) (mi_ : ∀ j, j < H.n → IL.1 158 j = H.mi j) (vo_ : ∀ j, j < H.n → IL.1 159 j = H.vo j) (sh_ : ∀ j, j < H.k → IL.1 160 j = H.sh j) (len_ : IL.1 145 18 = nI H.ss.length) (units_ : IL.1 145 21 = H.units) (form_ : IL.1 145 25 = 0 ↔ H.ss = []) (ss_ : ∀ j, j < H.ss.length → IL.1 150 j = yst (H.ss.getD j 0) ∧ IL.1 151 j = yar (H.ss.getD j 0)) : yMH H IL := show (IL.1 145 41 = nI H.n) ∧ (IL.1 145 42 = nI H.k) ∧ (IL.1 145 43 = H.out) ∧ (IL.1 145 44 = H.cock) ∧ (IL.1 145 45 = H.quota) ∧ (IL.1 145 46 = H.puns) ∧ (∀ j, j < H.n → IL.1 158 j = H.mi j) ∧ (∀ j, j < H.n → IL.1 159 j = H.vo j) ∧ (∀ j, j < H.k → IL.1 160 j = H.sh j) ∧ (IL.1 145 18 = nI H.ss.length) ∧ (IL.1 145 21 = H.units) ∧ (IL.1 145 25 = 0 ↔ H.ss = []) ∧ (∀ j, j < H.ss.length → IL.1 150 j = yst (H.ss.getD j 0) ∧ IL.1 151 j = yar (H.ss.getD j 0)) from ⟨mem_, cla_, out_, cock_, quota_, puns_, mi_, vo_, sh_, len_, units_, form_, ss_⟩
/-- what may change: slots that p tells -/
def yfm (p : Nat → Nat → Bool) (A B : zIL) : Prop := (∀ c j, p c j = false → B.1 c j = A.1 c j) ∧ B.2 = A.2
theorem yfm_rf {p : Nat → Nat → Bool} {A : zIL} : yfm p A A := ⟨fun _ _ _ => rfl, rfl⟩
theorem yfm_tr {p : Nat → Nat → Bool} {A B C : zIL} (h1 : yfm p A B) (h2 : yfm p B C) : yfm p A C := ⟨fun c j h => (h2.1 c j h).trans (h1.1 c j h), h2.2.trans h1.2⟩
theorem yfm_le {p q : Nat → Nat → Bool} {A B : zIL} (h : yfm p A B) (hq : ∀ c j, q c j = false → p c j = false) : yfm q A B := ⟨fun c j z => h.1 c j (hq c j z), h.2⟩
theorem yfm_wi {p : Nat → Nat → Bool} {A : zIL} {c j : Nat} {v : Int32} (h : p c j = true) : yfm p A (zwi A c j v) := ⟨fun c' j' z => by
  by_cases e : c' = c
  · subst e
    rw [zwi_at]
    by_cases e2 : j' = j
    · subst e2; rw [h] at z; cases z
    · rw [if_neg e2]
  · rw [zwi_ne e], rfl⟩
theorem yfm_zfr {cs : List Nat} {p : Nat → Nat → Bool} {A B : zIL} (h : zfr cs A B) (hp : ∀ c, c ∈ cs → ∀ j, p c j = true) : yfm p A B := ⟨fun c j z => by
  rw [h.1 c (fun hc => by rw [hp c hc j] at z; cases z)], h.2⟩
theorem yCH.fr {u : Bool} {H : yH} {A B : zIL} (h : yCH u H A) (hc : ∀ i, i < 8 → i ≠ 5 → i ≠ 7 → B.1 (zH u + i) = A.1 (zH u + i)) : yCH u H B := by
  have h0 : B.1 (zH u) = A.1 (zH u) := hc 0 (by decide) (by decide) (by decide)
  have h1 := hc 1 (by decide) (by decide) (by decide)
  have h2 := hc 2 (by decide) (by decide) (by decide)
  have h3 := hc 3 (by decide) (by decide) (by decide)
  have h4 := hc 4 (by decide) (by decide) (by decide)
  have h6 := hc 6 (by decide) (by decide) (by decide)
  unfold yCH; exact ⟨by rw [h0]; exact h.mem, by rw [h0]; exact h.out, by rw [h0]; exact h.cla, by rw [h0]; exact h.cock, by rw [h0]; exact h.quota, by rw [h0]; exact h.puns, by rw [h0]; exact h.draw, by rw [h1]; exact h.mi, by rw [h2]; exact h.vo, by rw [h3]; exact h.sh, by rw [h4]; exact h.len, by rw [h4]; exact h.units, by rw [h6]; exact h.ss⟩
/-- slots of the model's House -/
def yMHs (c j : Nat) : Bool := (c == 145 && (j == 41 || j == 42 || j == 43 || j == 44 || j == 45 || j == 46 || j == 18 || j == 21 || j == 25)) || c == 158 || c == 159 || c == 160 || c == 150 || c == 151
theorem yMH.fr {H : yH} {A B : zIL} (h : yMH H A) (hc : ∀ c j, yMHs c j = true → B.1 c j = A.1 c j) : yMH H B :=
  by unfold yMH; exact ⟨by rw [hc 145 41 rfl]; exact h.mem, by rw [hc 145 42 rfl]; exact h.cla, by rw [hc 145 43 rfl]; exact h.out, by rw [hc 145 44 rfl]; exact h.cock, by rw [hc 145 45 rfl]; exact h.quota, by rw [hc 145 46 rfl]; exact h.puns, fun j hj => by rw [hc 158 j rfl]; exact h.mi j hj, fun j hj => by rw [hc 159 j rfl]; exact h.vo j hj, fun j hj => by rw [hc 160 j rfl]; exact h.sh j hj, by rw [hc 145 18 rfl]; exact h.len, by rw [hc 145 21 rfl]; exact h.units, by rw [hc 145 25 rfl]; exact h.form, fun j hj => by rw [hc 150 j rfl, hc 151 j rfl]; exact h.ss j hj⟩
/-- a State: 0-6 notches, 7 out, 8 read, 9 carried, 10 seed -/
def yCS (s : Nat) (S : Nat → Int32) (IL : zIL) : Prop := (∀ j, j < 7 → IL.1 (s + 1) j = S j) ∧ (IL.1 s 1 = S 7) ∧ (IL.1 s 2 = S 8) ∧ (IL.1 s 3 = S 9) ∧ (IL.1 s 4 = S 10)
theorem yCS.no {s : Nat} {S : Nat → Int32} {IL : zIL} (h : yCS s S IL) : ∀ j, j < 7 → IL.1 (s + 1) j = S j := h.1
theorem yCS.out {s : Nat} {S : Nat → Int32} {IL : zIL} (h : yCS s S IL) : IL.1 s 1 = S 7 := h.2.1
theorem yCS.read {s : Nat} {S : Nat → Int32} {IL : zIL} (h : yCS s S IL) : IL.1 s 2 = S 8 := h.2.2.1
theorem yCS.car {s : Nat} {S : Nat → Int32} {IL : zIL} (h : yCS s S IL) : IL.1 s 3 = S 9 := h.2.2.2.1
theorem yCS.seed {s : Nat} {S : Nat → Int32} {IL : zIL} (h : yCS s S IL) : IL.1 s 4 = S 10 := h.2.2.2.2
theorem yCS.mk {s : Nat} {S : Nat → Int32} {IL : zIL} (no_ : ∀ j, j < 7 → IL.1 (s + 1) j = S j) (out_ : IL.1 s 1 = S 7) (read_ : IL.1 s 2 = S 8) (car_ : IL.1 s 3 = S 9) (seed_ : IL.1 s 4 = S 10) : yCS s S IL := show (∀ j, j < 7 → IL.1 (s + 1) j = S j) ∧ (IL.1 s 1 = S 7) ∧ (IL.1 s 2 = S 8) ∧ (IL.1 s 3 = S 9) ∧ (IL.1 s 4 = S 10) from ⟨no_, out_, read_, car_, seed_⟩
def yMS (c : Nat) (S : Nat → Int32) (IL : zIL) : Prop := ∀ j, j < 11 → IL.1 c j = S j
theorem yCS.fr {s : Nat} {S : Nat → Int32} {A B : zIL} (h : yCS s S A) (h0 : B.1 s = A.1 s) (h1 : B.1 (s + 1) = A.1 (s + 1)) : yCS s S B :=
  by unfold yCS; exact ⟨by rw [h1]; exact h.no, by rw [h0]; exact h.out, by rw [h0]; exact h.read, by rw [h0]; exact h.car, by rw [h0]; exact h.seed⟩
theorem yMS.fr {c : Nat} {S : Nat → Int32} {A B : zIL} (h : yMS c S A) (h0 : B.1 c = A.1 c) : yMS c S B := fun j hj => by rw [h0]; exact h j hj
def ySB (H : yH) (S : Nat → Int32) : Prop := (∀ j, j < 7 → yin (S j) 0 99) ∧ (∀ j, j < 7 → bt (S 7) j = false → S j = 0) ∧ (∀ i, H.n ≤ i → bt (S 7) i = false) ∧ (∀ i, H.k ≤ i → bt (S 8) i = false) ∧ (∀ i, H.k ≤ i → bt (S 9) i = false) ∧ (yin (S 10) 0 999)
theorem ySB.no {H : yH} {S : Nat → Int32} (h : ySB H S) : ∀ j, j < 7 → yin (S j) 0 99 := h.1
theorem ySB.inn {H : yH} {S : Nat → Int32} (h : ySB H S) : ∀ j, j < 7 → bt (S 7) j = false → S j = 0 := h.2.1
theorem ySB.out {H : yH} {S : Nat → Int32} (h : ySB H S) : ∀ i, H.n ≤ i → bt (S 7) i = false := h.2.2.1
theorem ySB.read {H : yH} {S : Nat → Int32} (h : ySB H S) : ∀ i, H.k ≤ i → bt (S 8) i = false := h.2.2.2.1
theorem ySB.car {H : yH} {S : Nat → Int32} (h : ySB H S) : ∀ i, H.k ≤ i → bt (S 9) i = false := h.2.2.2.2.1
theorem ySB.seed {H : yH} {S : Nat → Int32} (h : ySB H S) : yin (S 10) 0 999 := h.2.2.2.2.2
theorem ySB.mk {H : yH} {S : Nat → Int32} (no_ : ∀ j, j < 7 → yin (S j) 0 99) (inn_ : ∀ j, j < 7 → bt (S 7) j = false → S j = 0) (out_ : ∀ i, H.n ≤ i → bt (S 7) i = false) (read_ : ∀ i, H.k ≤ i → bt (S 8) i = false) (car_ : ∀ i, H.k ≤ i → bt (S 9) i = false) (seed_ : yin (S 10) 0 999) : ySB H S := show (∀ j, j < 7 → yin (S j) 0 99) ∧ (∀ j, j < 7 → bt (S 7) j = false → S j = 0) ∧ (∀ i, H.n ≤ i → bt (S 7) i = false) ∧ (∀ i, H.k ≤ i → bt (S 8) i = false) ∧ (∀ i, H.k ≤ i → bt (S 9) i = false) ∧ (yin (S 10) 0 999) from ⟨no_, inn_, out_, read_, car_, seed_⟩
