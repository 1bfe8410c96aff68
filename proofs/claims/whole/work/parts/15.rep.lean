/-! the heap that stands for an abstract memory -/
def zgw : List Cond := lw_tbl.filter goodWord
theorem zwd_in {p : Nat} {w : Cond} (h : zwd p w = true) : w ∈ zgw := by
  unfold zwd at h
  simp only [Bool.and_eq_true, decide_eq_true_eq] at h
  exact List.mem_filter.mpr ⟨List.mem_of_getElem? h.1, h.2⟩
theorem zgw_good {w : Cond} (h : w ∈ zgw) : (w.onTables && w.keeps) = true ∨ ∃ ty, w = .arrayClass ty := good_of_word (List.mem_filter.mp h).2
theorem zfq_in {o i a b : Nat} (h : zfq o i a b = true) : zfl o i a b ∈ zgw := by
  unfold zfq at h
  obtain ⟨e, he, hb⟩ := List.any_eq_true.mp h
  simp only [Bool.and_eq_true] at hb
  have hw := List.all_eq_true.mp zfp_b e he
  rw [Nat.eq_of_beq_eq_true hb.1.1.1, Nat.eq_of_beq_eq_true hb.1.1.2, Nat.eq_of_beq_eq_true hb.1.2, Nat.eq_of_beq_eq_true hb.2] at hw
  exact zwd_in hw
theorem zcq_in {o i a : Nat} (h : zcq o i a = true) : Cond.classLink (zcn.getD o "") i (zcls a).1 ∈ zgw := by
  unfold zcq at h
  obtain ⟨e, he, hb⟩ := List.any_eq_true.mp h
  simp only [Bool.and_eq_true] at hb
  have hw := List.all_eq_true.mp zcp_b e he
  rw [Nat.eq_of_beq_eq_true hb.1.1, Nat.eq_of_beq_eq_true hb.1.2, Nat.eq_of_beq_eq_true hb.2] at hw
  exact zwd_in hw
theorem zkq_in {o i : Nat} {x : Int32} (h : zkq o i x = true) : Cond.constant (zcn.getD o "") i x ∈ zgw := by
  unfold zkq at h
  obtain ⟨e, he, hb⟩ := List.any_eq_true.mp h
  simp only [Bool.and_eq_true, decide_eq_true_eq] at hb
  have hw := List.all_eq_true.mp zkp_b e he
  rw [Nat.eq_of_beq_eq_true hb.1.1, Nat.eq_of_beq_eq_true hb.1.2, hb.2] at hw
  exact zwd_in hw
theorem zlq_in {o i : Nat} {x : Int64} (h : zlq o i x = true) : Cond.constantLong (zcn.getD o "") i x ∈ zgw := by
  unfold zlq at h
  obtain ⟨e, he, hb⟩ := List.any_eq_true.mp h
  simp only [Bool.and_eq_true, decide_eq_true_eq] at hb
  have hw := List.all_eq_true.mp zlp_b e he
  rw [Nat.eq_of_beq_eq_true hb.1.1, Nat.eq_of_beq_eq_true hb.1.2, hb.2] at hw
  exact zwd_in hw
theorem zmp_b : zmp.all (fun e => (match znestk e.2.2.2.1 with
  | true => zwn e.2.2.2.2 (zml e.1 e.2.1 e.2.2.1 e.2.2.2.1)
  | false => zwd e.2.2.2.2 (zml e.1 e.2.1 e.2.2.1 e.2.2.2.1)) && zmw e.2.2.1 e.2.2.2.1) = true := by
  have e : zmp = (zmp.drop 0).take 80 ++ ((zmp.drop 80).take 80 ++ ((zmp.drop 160).take 80 ++ (zmp.drop 240).take 80)) := by
    have h4 : (zmp.drop 240).take 80 = zmp.drop 240 := List.take_of_length_le (by decide +kernel)
    rw [h4, show zmp.drop 240 = (zmp.drop 160).drop 80 by rw [List.drop_drop], List.take_append_drop, show zmp.drop 160 = (zmp.drop 80).drop 80 by rw [List.drop_drop], List.take_append_drop, show zmp.drop 80 = (zmp.drop 0).drop 80 by rw [List.drop_drop], List.take_append_drop, List.drop_zero]
  rw [e, List.all_append, List.all_append, List.all_append, Bool.and_eq_true, Bool.and_eq_true, Bool.and_eq_true]
  exact ⟨zmp_b1, zmp_b2, zmp_b3, zmp_b4⟩
theorem zmq_in {o i a k : Nat} (h : zmq o i a k = true) : (znestk k = true → zml o i a k ∈ lw_tbl) ∧ (znestk k = false → zml o i a k ∈ zgw) ∧ zmw a k = true := by
  unfold zmq at h
  obtain ⟨e, he, hb⟩ := List.any_eq_true.mp h
  simp only [Bool.and_eq_true] at hb
  have hw := List.all_eq_true.mp zmp_b e he
  rw [Nat.eq_of_beq_eq_true hb.1.1.1, Nat.eq_of_beq_eq_true hb.1.1.2, Nat.eq_of_beq_eq_true hb.1.2, Nat.eq_of_beq_eq_true hb.2] at hw
  simp only [Bool.and_eq_true] at hw
  refine ⟨fun hk => ?_, fun hk => ?_, hw.2⟩
  · have := hw.1
    rw [hk] at this
    unfold zwn at this
    exact List.mem_of_getElem? (of_decide_eq_true this)
  · have := hw.1
    rw [hk] at this
    exact zwd_in this
theorem zcls_get {c : Nat} (h : c < 9) : vwCl[c]? = some (zcls c) := by
  unfold zcls
  rw [List.getD_eq_getElem?_getD, List.getElem?_eq_getElem (show c < vwCl.length from h)]
  rfl
theorem z9 {P : Nat → Prop} (h0 : P 0) (h1 : P 1) (h2 : P 2) (h3 : P 3) (h4 : P 4) (h5 : P 5) (h6 : P 6) (h7 : P 7) (h8 : P 8) : ∀ c, c < 9 → P c := by
  intro c hc
  match c, hc with
  | 0, _ => exact h0
  | 1, _ => exact h1
  | 2, _ => exact h2
  | 3, _ => exact h3
  | 4, _ => exact h4
  | 5, _ => exact h5
  | 6, _ => exact h6
  | 7, _ => exact h7
  | 8, _ => exact h8
  | c + 9, h => omega
theorem zlay_in : ∀ c, c < 9 → ∀ w ∈ u_ws (zcls c).1 (zcls c).2.1 (zcls c).2.2, w ∈ zgw := by
  have key : ∀ (c n : Nat), (List.range n).all (fun k => zwd ((zlay c).getD k 0) (u_lay (zcls c).1 (zcls c).2.1 k)) = true → ∀ w ∈ u_ws (zcls c).1 (zcls c).2.1 n, w ∈ zgw := by
    intro c n h w hw
    obtain ⟨k, hk, rfl⟩ := List.mem_map.mp hw
    exact zwd_in (List.all_eq_true.mp h k hk)
  exact z9 (key 0 _ zlay_b0) (key 1 _ zlay_b1) (key 2 _ zlay_b2) (key 3 _ zlay_b3) (key 4 _ zlay_b4) (key 5 _ zlay_b5) (key 6 _ zlay_b6) (key 7 _ zlay_b7) (key 8 _ zlay_b8)
theorem zty_ok : ∀ c, c < 9 → ∀ k, k < (zcls c).2.2 → parseFieldDescriptor ((zcls c).2.1 k).2.2.1 = some (zTy c k) := z9 tyX0_ok tyX1_ok tyX2_ok tyX3_ok tyX4_ok tyX5_ok tyX6_ok tyX7_ok tyX8_ok
theorem znm_ok : ∀ c, c < 9 → ∀ a, a < (zcls c).2.2 → ∀ b, b < (zcls c).2.2 → a ≠ b → ((zcls c).2.1 a).2.1 ≠ ((zcls c).2.1 b).2.1 := z9 nmX0 nmX1 nmX2 nmX3 nmX4 nmX5 nmX6 nmX7 nmX8
theorem zfl_9 {o i c k : Nat} (h : c < 9) : zfl o i c k = .fieldLink (zcn.getD o "") i ((zcls c).2.1 k).1 ((zcls c).2.1 k).2.1 ((zcls c).2.1 k).2.2.1 := by
  unfold zfl
  split
  · omega
  · rfl
def zfv (z : Nat) (M : zM) (c ci k : Nat) : Value := match ztc (zTy ci k) with
  | 4 => va_rf ((zR M c k).map (fun q => z + q))
  | 3 => .long (zL M c k)
  | _ => .int (zI M c k)
def zfs (z : Nat) (M : zM) (c ci : Nat) : List Value := (List.range (zcls ci).2.2).map (zfv z M c ci)
def zcon (z : Nat) (M : zM) (c t : Nat) : (Nat → Int32) ⊕ (Nat → Int64) ⊕ (Nat → UInt32) ⊕ (Nat → UInt64) ⊕ (Nat → Option Nat) := match t with
  | 4 => .inr (.inr (.inr (.inr (fun j => (zR M c j).map (fun q => z + q)))))
  | 3 => .inr (.inl (zL M c))
  | _ => .inl (zI M c)
def zcell (z : Nat) (dA : Nat → ClassId) (M : zM) (c : Nat) : va_E := match zS M c with
  | .inl ci => .inr (ci, zfs z M c ci)
  | .inr (t, n) => .inl (dA t, n, zcon z M c t)
def ztys (dA : Nat → ClassId) : List (ClassId × FieldType) := [(dA 0, .int), (dA 1, .byte), (dA 2, .boolean), (dA 3, .long), (dA 4, .object RX6)]
def zrep (D : va_G) (H0 : Heap) (dA : Nat → ClassId) (M : zM) (H : Heap) : Prop :=
  H.size = H0.size + zn M ∧ (∀ q : Nat, q < H0.size → H[q]? = H0[q]?) ∧ (∀ c, zn M ≤ c → zS M c = .inr (9, 0)) ∧ (∀ c ci, zS M c = .inl ci → ci < 9) ∧ ∀ c, c < zn M → va_at D vwCl (H0.size + c, zcell H0.size dA M c) H
section REP
variable {D : va_G} {H0 H H1 : Heap} {dA : Nat → ClassId} {M M' : zM}
theorem va_P1 {cl : List vw_C} {q : Nat × va_E} (h : va_at D cl q H) : va_P D cl [q] H := by
  intro k x hx
  cases k with
  | zero => cases hx; exact h
  | succ k => simp at hx
theorem zrep_lt1 (h : zrep D H0 dA M H) {q ci : Nat} (hs : zS M q = .inl ci) : q < zn M := by
  rcases Nat.lt_or_ge q (zn M) with g | g
  · exact g
  · have := h.2.2.1 q g
    rw [hs] at this
    cases this
theorem zrep_lt2 (h : zrep D H0 dA M H) {q t n : Nat} (hs : zS M q = .inr (t, n)) (ht : t < 5) : q < zn M := by
  rcases Nat.lt_or_ge q (zn M) with g | g
  · exact g
  · have := h.2.2.1 q g
    rw [hs] at this
    injection this with e
    injection e with e1 e2
    omega
theorem zcell_o {q ci z : Nat} (hs : zS M q = .inl ci) : zcell z dA M q = .inr (ci, zfs z M q ci) := by
  unfold zcell; rw [hs]
theorem zcell_a {q t n z : Nat} (hs : zS M q = .inr (t, n)) : zcell z dA M q = .inl (dA t, n, zcon z M q t) := by
  unfold zcell; rw [hs]
theorem zrep_o (h : zrep D H0 dA M H) {q ci : Nat} (hs : zS M q = .inl ci) : va_at D vwCl (H0.size + q, .inr (ci, zfs H0.size M q ci)) H := by
  have := h.2.2.2.2 q (zrep_lt1 h hs)
  rw [zcell_o hs] at this
  exact this
theorem zrep_a (h : zrep D H0 dA M H) {q t n : Nat} (hs : zS M q = .inr (t, n)) (ht : t < 5) : va_at D vwCl (H0.size + q, .inl (dA t, n, zcon H0.size M q t)) H := by
  have := h.2.2.2.2 q (zrep_lt2 h hs ht)
  rw [zcell_a hs] at this
  exact this
theorem zfs_get {z q ci k : Nat} (hk : k < (zcls ci).2.2) : (zfs z M q ci)[k]? = some (zfv z M q ci k) := by
  unfold zfs
  rw [List.getElem?_map, List.getElem?_range hk]
  rfl
theorem zfs_len {z q ci : Nat} : (zfs z M q ci).length = (zcls ci).2.2 := by
  unfold zfs
  rw [List.length_map, List.length_range]
theorem zrep_set {c : Nat} (h : zrep D H0 dA M H) (hc : c < zn M) (hz : H1.size = H.size) (ho : ∀ q, q ≠ H0.size + c → H1[q]? = H[q]?) (hn : zn M' = zn M) (hS : ∀ x, zS M' x = zS M x) (he : ∀ x, x ≠ c → zcell H0.size dA M' x = zcell H0.size dA M x) (ha : va_at D vwCl (H0.size + c, zcell H0.size dA M' c) H1) : zrep D H0 dA M' H1 := by
  obtain ⟨h1, h2, h3, h4, h5⟩ := h
  refine ⟨by rw [hz, hn]; exact h1, fun q hq => (ho q (by omega)).trans (h2 q hq), fun x hx => by rw [hS]; exact h3 x (by omega), fun x ci hx => h4 x ci (by rw [← hS]; exact hx), fun x hx => ?_⟩
  by_cases e : x = c
  · subst e; exact ha
  · rw [he x e]
    exact (h5 x (by omega)).kept (ho _ (by omega))
/-- a list set at one place, where all else is as it was -/
theorem zfs_set {z q ci k : Nat} {v : Value} (hk : k < (zcls ci).2.2) (hv : zfv z M' q ci k = v) (ho : ∀ j, j ≠ k → zfv z M' q ci j = zfv z M q ci j) : (zfs z M q ci).set k v = zfs z M' q ci := by
  apply List.ext_getElem?
  intro j
  rw [List.getElem?_set]
  by_cases e : k = j
  · subst e
    rw [if_pos rfl, if_pos (by rw [zfs_len]; exact hk), zfs_get hk, hv]
  · rw [if_neg e]
    by_cases hj : j < (zcls ci).2.2
    · rw [zfs_get hj, zfs_get hj, ho j (fun q => e q.symm)]
    · rw [List.getElem?_eq_none (by rw [zfs_len]; omega), List.getElem?_eq_none (by rw [zfs_len]; omega)]
theorem zup_ne {α : Type} {f : Nat → Nat → α} {c j c' : Nat} {v : α} (h : c' ≠ c) : zup f c j v c' = f c' := by
  funext x
  unfold zup
  rw [if_neg h]
theorem zup_at {α : Type} {f : Nat → Nat → α} {c j j' : Nat} {v : α} : zup f c j v c j' = if j' = j then v else f c j' := by
  unfold zup
  rw [if_pos rfl]
theorem zcell_wI {z q j x : Nat} {v : Int32} (h : x ≠ q) : zcell z dA (zwI M q j v) x = zcell z dA M x := by
  have e : (zwI M q j v).2.1 x = M.2.1 x := zup_ne h
  unfold zcell zfs zfv zcon zI zR zL zS
  rw [e]
  rfl
theorem zcell_wL {z q j x : Nat} {v : Int64} (h : x ≠ q) : zcell z dA (zwL M q j v) x = zcell z dA M x := by
  have e : (zwL M q j v).2.2 x = M.2.2 x := zup_ne h
  unfold zcell zfs zfv zcon zI zR zL zS
  rw [e]
  rfl
theorem zcell_wR {z q j x : Nat} {v : Option Nat} (h : x ≠ q) : zcell z dA (zwR M q j v) x = zcell z dA M x := by
  have e : (zwR M q j v).1.2.2.2 x = M.1.2.2.2 x := zup_ne h
  unfold zcell zfs zfv zcon zI zR zL zS
  rw [e]
  rfl
end REP
