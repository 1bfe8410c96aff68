/-! the law's run in the abstract machine gives its walk -/
def zM0 : zM := ((0, 0, (fun _ => .inr (9, 0)), (fun _ _ => none)), (fun _ _ => 0), (fun _ _ => 0))
def zlaw (xs : List Int32) : Prop := zgo xs (zcall xs 100) 600000 7302250 kL_law (fun _ r => r = some (.int 1)) 0 [.retAddr 1, .retAddr 0, .retAddr 0, .retAddr 0] [] zM0
theorem zall_split {α : Type} {p : α → Bool} (k : Nat) : ∀ (n : Nat) (l : List α), l.length ≤ n * k → (∀ i, i < n → ((l.drop (i * k)).take k).all p = true) → l.all p = true
  | 0, l, hl, _ => by
    have : l = [] := List.eq_nil_of_length_eq_zero (by omega)
    rw [this]; rfl
  | n + 1, l, hl, h => by
    rw [← List.take_append_drop k l, List.all_append, Bool.and_eq_true]
    refine ⟨by simpa using h 0 (Nat.succ_pos n), zall_split k n (l.drop k) (by rw [List.length_drop, Nat.succ_mul] at *; omega) fun i hi => ?_⟩
    have := h (i + 1) (by omega)
    rw [List.drop_drop, Nat.add_comm k, ← Nat.succ_mul]
    exact this
theorem zchk_law : ∀ e ∈ zcode 283, zokb 283 e = true := by
  have hl : (zcode 283).length ≤ 30 * 40 := by decide +kernel
  have h := zall_split (p := zokb 283) 40 30 (zcode 283) hl (fun i hi => by
    match i, hi with
    | 0, _ => exact zchk_law_0
    | 1, _ => exact zchk_law_1
    | 2, _ => exact zchk_law_2
    | 3, _ => exact zchk_law_3
    | 4, _ => exact zchk_law_4
    | 5, _ => exact zchk_law_5
    | 6, _ => exact zchk_law_6
    | 7, _ => exact zchk_law_7
    | 8, _ => exact zchk_law_8
    | 9, _ => exact zchk_law_9
    | 10, _ => exact zchk_law_10
    | 11, _ => exact zchk_law_11
    | 12, _ => exact zchk_law_12
    | 13, _ => exact zchk_law_13
    | 14, _ => exact zchk_law_14
    | 15, _ => exact zchk_law_15
    | 16, _ => exact zchk_law_16
    | 17, _ => exact zchk_law_17
    | 18, _ => exact zchk_law_18
    | 19, _ => exact zchk_law_19
    | 20, _ => exact zchk_law_20
    | 21, _ => exact zchk_law_21
    | 22, _ => exact zchk_law_22
    | 23, _ => exact zchk_law_23
    | 24, _ => exact zchk_law_24
    | 25, _ => exact zchk_law_25
    | 26, _ => exact zchk_law_26
    | 27, _ => exact zchk_law_27
    | 28, _ => exact zchk_law_28
    | 29, _ => exact zchk_law_29
    | i + 30, h => omega)
  exact fun e he => List.all_eq_true.mp h e he
set_option maxHeartbeats 4000000 in
theorem law_start {p : Program} {e : Env} {s : State} {m : MethodId} {below : List Frame} {meth : Method} {c : Code} (l : Launch) {b L : Nat} {xs : Nat → Int32} (hL : L ≤ 3072) (C0 : lw_At p s m meth c b L xs) (hz : zlaw ((List.range L).map xs)) : W p l e room_1 s m #[Value.ref b] below meth c s.heap [] 0 0 (lw_Z below #[Value.ref b] s) (entryFrame m ([Value.ref b] : List Value).toArray 4) := by
  obtain ⟨D, sv, dA, hsv, hs1, hE⟩ := zenv_start C0 hL
  obtain ⟨hx, hb, hr, hml, hown, hts, hX, hbl, hlocks, hgv⟩ := C0
  have K : zctx D s.heap ((List.range L).map xs) sv dA 283 p s m #[Value.ref b] meth c := ⟨hx, hb, hml, hr, hown, fun w hw => hts w (List.mem_filter.mp hw).1, hlocks, fun q => absurd q (by decide +kernel), hE, Nat.le_refl _, fun _ _ => rfl, hsv⟩
  have hQ : zreti D s.heap sv dA 283 0 0 p l e room_1 s m #[Value.ref b] below meth c (lw_Z below #[Value.ref b] s) (fun _ r => r = some (.int 1)) := by
    refine ⟨fun x M' pc ty H locs lsA cells slots ls hq I hd ht hn => ?_, fun x M' pc cn H locs lsA cells slots ls hq I hd ht => (by cases hq), fun M' pc H locs lsA cells slots ls hq I hd ht => (by cases hq)⟩
    have hx1 : x = 1 := Value.int.inj (Option.some.inj hq)
    subst hx1
    have c1 : cells + 0 = zn M' := I.2.2.2.2.1
    have c2 : slots + 0 = zsl M' := I.2.2.2.2.2.1
    have c3 : zn M' ≤ 0 + 600000 := I.2.2.2.2.2.2.1
    have c4 : zsl M' ≤ 0 + 7302250 := I.2.2.2.2.2.2.2.1
    refine va_forget (fun q hq => I.2.1 q hq) ?_
    refine W.widen (k := 600000) (n := 7302250) (by omega) (by omega) ?_
    exact lw_ret hx hb hr hlocks hd
  have hgo := zgo_sound (l := l) (e := e) (below := below) (R := room_1) (n0 := 0) (s0 := 0) (mi := 283) (d := 100) K rfl rfl (Nat.le_of_ble_eq_true rfl) (Nat.le_of_ble_eq_true rfl) (fun a M as Q ha h => zmet_all hsv 100 a M as Q ha h) hQ zchk_law hz
  have he : ([Value.ref b] : List Value) = [Value.retAddr 1].map (zcv s.heap.size sv) := by
    show [Value.ref b] = [sv 1]
    rw [hs1]
  have hent : entryFrame m ([Value.ref b] : List Value).toArray 4 = F0 m 0 ((lg_sl ([Value.retAddr 1].map (zcv s.heap.size sv)) ++ List.replicate (4 - (lg_sl ([Value.retAddr 1].map (zcv s.heap.size sv))).length) Slot.unset).toArray) [] := by
    rw [he]
    exact lg_entry_eq _ _ _
  rw [hent]
  refine hgo s.heap [] _ 0 0 ⟨⟨rfl, fun _ _ => rfl, fun _ _ => rfl, fun c ci h => (by cases h), fun c h => absurd h (Nat.not_lt_zero c)⟩, fun x hx => (by cases hx), zlocs_zlv (as := [.retAddr 1]) hsv (Nat.le_of_ble_eq_true rfl), fun _ => rfl, rfl, rfl, Nat.le_of_ble_eq_true rfl, Nat.le_of_ble_eq_true rfl, Nat.le_refl _⟩
