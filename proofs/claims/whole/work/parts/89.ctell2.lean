/-! lines keep the House in bounds; the class reads all lines -/
section CTELL2
variable {xs : List Int32} {d : Nat} {Q : zQ} {t u : Bool} {IL : zIL} {B : Nat → Nat} {n : Nat}
def yri (n : Nat) (r : Nat × ytkT) (s : Nat) : Prop := ytkO n r.2 ∧ r.1 ≤ 4 ∧ s ≤ r.2.s
theorem ysp_I {c : ytkT → Nat} {r : Nat × ytkT} {s : Nat} (hB : ∀ j, j < n → B j < 256) (h : yri n r s) (hc : ∀ a, c a ≤ 4) (hc1 : ∀ a, c a = 0 → a.k ≠ 1) : yri n (ysp B n c r) s := by
  unfold ysp
  by_cases h1 : r.1 = 0
  · rw [if_pos h1]
    by_cases h2 : c r.2 = 0
    · rw [if_pos h2]
      have := ytko_nx (B := B) h.1.1 (hc1 _ h2)
      exact ⟨ytkO_nt hB h.1, Nat.zero_le _, Nat.le_trans h.2.2 (Nat.le_of_lt this.2)⟩
    · rw [if_neg h2]
      exact ⟨h.1, hc _, h.2.2⟩
  · rw [if_neg h1]
    exact h
theorem yck_4 (k : Nat) (a : ytkT) : yck k a ≤ 4 := by
  unfold yck
  split
  · omega
  · have := (yrf_2 a).1; omega
theorem yck_1 {k : Nat} (hk : k ≠ 1) (a : ytkT) (h : yck k a = 0) : a.k ≠ 1 := fun q => by
  unfold yck at h
  rw [if_neg (by omega)] at h
  exact (yrf_2 a).2 h
theorem yckn_4 (lo hi : Nat) (a : ytkT) : yckn lo hi a ≤ 4 := by
  unfold yckn
  split
  · split <;> omega
  · have := (yrf_2 a).1; omega
theorem yckn_0 {lo hi : Nat} {a : ytkT} (h : yckn lo hi a = 0) : a.k = 2 ∧ lo ≤ a.n ∧ a.n ≤ hi := by
  unfold yckn at h
  by_cases h2 : a.k = 2
  · rw [if_pos h2] at h
    by_cases h3 : lo ≤ a.n ∧ a.n ≤ hi
    · exact ⟨h2, h3⟩
    · rw [if_neg h3] at h; cases h
  · rw [if_neg h2] at h
    exact absurd h (yrf_2 a).2
theorem yckw_4 (L : List (List Nat)) (a : ytkT) : yckw L a ≤ 4 := by
  unfold yckw
  split
  · split <;> omega
  · have := (yrf_2 a).1; omega
theorem yckw_0 {L : List (List Nat)} {a : ytkT} (h : yckw L a = 0) : a.k = 3 ∧ ¬ a.w ∈ L := by
  unfold yckw at h
  by_cases h2 : a.k = 3
  · rw [if_pos h2] at h
    by_cases h3 : a.w ∈ L
    · rw [if_pos h3] at h; cases h
    · exact ⟨h2, h3⟩
  · rw [if_neg h2] at h
    exact absurd h (yrf_2 a).2
theorem ycki_4 (a : ytkT) : ycki a ≤ 4 := by
  unfold ycki
  split
  · omega
  · have := (yrf_2 a).1; omega
theorem ycki_1 (a : ytkT) (h : ycki a = 0) : a.k ≠ 1 := fun q => by
  unfold ycki at h
  rw [if_neg (by omega)] at h
  exact (yrf_2 a).2 h
theorem yin_nI2 {v a b : Nat} (h1 : a ≤ v) (h2 : v ≤ b) (hb : b ≤ 10000) : yin (nI v) (a : Int) (b : Int) := by
  unfold yin
  rw [nI_toInt (by omega)]
  omega
def yLI (B : Nat → Nat) (n : Nat) (Z : yZ) (r : Nat × yZ) : Prop := ytkO n r.2.tk ∧ r.1 ≤ 4 ∧ (r.1 = 0 → yZI n r.2 ∧ Z.tk.s < r.2.tk.s)
theorem yLI_2 {Z : yZ} (hI : yZI n Z) {c : Nat} (hc : c ≠ 0) (h4 : c ≤ 4) : yLI B n Z (c, Z) := ⟨hI.1, h4, fun z => absurd z hc⟩
theorem yLI_at {Z : yZ} {r : Nat × ytkT} (h : ytkO n r.2) (h4 : r.1 ≤ 4) (h0 : ¬ r.1 = 0) : yLI B n Z (r.1, Z.at r.2) := ⟨h, h4, fun z => absurd z h0⟩
theorem yLI_ok {Z : yZ} {r : yZ} (h : yZI n r) (hs : Z.tk.s < r.tk.s) : yLI B n Z (0, r) := ⟨h.1, Nat.zero_le _, fun _ => ⟨h, hs⟩⟩
theorem yZI_mk {n : Nat} {a : ytkT} {m c : List (List Nat)} {f : Nat → Bool} {H : yH} (h1 : ytkO n a) (h2 : m.length = H.n) (h3 : c.length = H.k) (h4 : ∀ w, w ∈ m → ywd1 w) (h5 : ∀ w, w ∈ c → ywd1 w) (h6 : yOK H) (h7 : f 2 = false → H.ss = [] ∧ H.units = 0) (h8 : f 2 = true → H.ss ≠ []) : yZI n (yZ.mk a m c f H) := ⟨h1, h2, h3, h4, h5, h6, h7, h8⟩
theorem yHm_ok {H : yH} {o : Bool} {a b : Nat} (h : yOK H) (hn : H.n < 7) (ha : a ≤ 9) (hb : b ≤ 9) : yOK (yHm H o (nI a) (nI b)) := by
  refine yOK.mk ?_ h.k6 ?_ ?_ h.sh ?_ h.cock h.quota h.puns h.draw h.ss h.bk
  · show H.n + 1 ≤ 7; omega
  · intro j hj
    have hj' : j < H.n + 1 := hj
    show yin (if j = H.n then nI a else H.mi j) 0 9
    by_cases e : j = H.n
    · rw [if_pos e]; exact yin_nI2 (Nat.zero_le _) ha (by decide)
    · rw [if_neg e]; exact h.mi j (by omega)
  · intro j hj
    have hj' : j < H.n + 1 := hj
    show yin (if j = H.n then nI b else H.vo j) 0 9
    by_cases e : j = H.n
    · rw [if_pos e]; exact yin_nI2 (Nat.zero_le _) hb (by decide)
    · rw [if_neg e]; exact h.vo j (by omega)
  · intro i hi
    have hi' : H.n + 1 ≤ i := hi
    show bt (if o then H.out ||| (1 <<< (nI H.n &&& 31)) else H.out) i = false
    cases o
    · exact h.out i (by omega)
    · rw [if_pos rfl]
      rcases Nat.lt_or_ge i 32 with q | q
      · rw [b_or, h.out i (by omega), b_one (by omega) q, decide_eq_false (by omega)]; rfl
      · exact b_big q
theorem yHc_ok {H : yH} {a : Nat} (h : yOK H) (hk : H.k < 6) (ha : a ≤ 20) : yOK (yHc H (nI a)) := by
  refine yOK.mk h.n7 ?_ h.mi h.vo ?_ h.out h.cock h.quota h.puns h.draw h.ss h.bk
  · show H.k + 1 ≤ 6; omega
  · intro j hj
    have hj' : j < H.k + 1 := hj
    show yin (if j = H.k then nI a else H.sh j) 0 20
    by_cases e : j = H.k
    · rw [if_pos e]; exact yin_nI2 (Nat.zero_le _) ha (by decide)
    · rw [if_neg e]; exact h.sh j (by omega)
theorem yHn_ok {H : yH} {i a : Nat} (h : yOK H) (h3 : i = 3 → 1 ≤ a ∧ a ≤ 30) (h4 : i = 4 → a ≤ 99) (h5 : i = 5 → a ≤ 100) (h6 : i = 6 → a ≤ 999) : yOK (yHn H i (nI a)) := by
  refine yOK.mk h.n7 h.k6 h.mi h.vo h.sh h.out ?_ ?_ ?_ ?_ h.ss h.bk
  · show yin (if i = 3 then nI a else H.cock) 1 30
    by_cases e : i = 3
    · rw [if_pos e]; exact yin_nI2 (h3 e).1 (h3 e).2 (by decide)
    · rw [if_neg e]; exact h.cock
  · show yin (if i = 4 then nI a else H.quota) 0 99
    by_cases e : i = 4
    · rw [if_pos e]; exact yin_nI2 (Nat.zero_le _) (h4 e) (by decide)
    · rw [if_neg e]; exact h.quota
  · show yin (if i = 5 then nI a else H.puns) 0 100
    by_cases e : i = 5
    · rw [if_pos e]; exact yin_nI2 (Nat.zero_le _) (h5 e) (by decide)
    · rw [if_neg e]; exact h.puns
  · show yin (if i = 6 then nI a else H.draw) 0 999
    by_cases e : i = 6
    · rw [if_pos e]; exact yin_nI2 (Nat.zero_le _) (h6 e) (by decide)
    · rw [if_neg e]; exact h.draw
theorem yLm_I {Z : yZ} (hB : ∀ j, j < n → B j < 256) (hI : yZI n Z) (hk : Z.tk.k ≠ 1) : yLI B n Z (yLm B n Z) := by
  unfold yLm
  by_cases q : 7 ≤ Z.H.n
  · rw [if_pos q]; exact yLI_2 hI (by decide) (by decide)
  · rw [if_neg q]
    have p1 := ytko_nx (B := B) hI.1.1 hk
    have r1 : yri n (0, ynt B n Z.tk) (ynt B n Z.tk).s := ⟨ytkO_nt hB hI.1, Nat.zero_le _, Nat.le_refl _⟩
    have r2 : yri n (ym2 B n Z) (ynt B n Z.tk).s := ysp_I hB r1 (yckw_4 _) (fun a h => by have := (yckw_0 h).1; omega)
    have r3 : yri n (ym3 B n Z) (ynt B n Z.tk).s := ysp_I hB r2 ycki_4 ycki_1
    have r4 : yri n (ym4 B n Z) (ynt B n Z.tk).s := ysp_I hB r3 (yck_4 _) (yck_1 (by decide))
    have r5 : yri n (ym5 B n Z) (ynt B n Z.tk).s := ysp_I hB r4 (yckn_4 _ _) (fun a h => by have := (yckn_0 h).1; omega)
    have r6 : yri n (ym6 B n Z) (ynt B n Z.tk).s := ysp_I hB r5 (yck_4 _) (yck_1 (by decide))
    have r7 : yri n (ym7 B n Z) (ynt B n Z.tk).s := ysp_I hB r6 (yckn_4 _ _) (fun a h => by have := (yckn_0 h).1; omega)
    have r8 : yri n (ym8 B n Z) (ynt B n Z.tk).s := ysp_I hB r7 (yck_4 _) (yck_1 (by decide))
    by_cases h0 : (ym8 B n Z).1 = 0
    · rw [if_pos h0]
      obtain ⟨a7, b7, c7⟩ := ysp_0 (r := ym7 B n Z) h0
      obtain ⟨a6, b6, c6⟩ := ysp_0 (r := ym6 B n Z) a7
      obtain ⟨a5, b5, c5⟩ := ysp_0 (r := ym5 B n Z) a6
      obtain ⟨a4, b4, c4⟩ := ysp_0 (r := ym4 B n Z) a5
      obtain ⟨a3, b3, c3⟩ := ysp_0 (r := ym3 B n Z) a4
      obtain ⟨a2, b2, c2⟩ := ysp_0 (r := ym2 B n Z) a3
      obtain ⟨a1, b1, c1⟩ := ysp_0 (r := (0, ynt B n Z.tk)) a2
      have w1 : ywd1 (ynt B n Z.tk).w := r1.1.2.2.1 (Or.inl (yckw_0 b1).1)
      refine yLI_ok (yZI_mk r8.1 ?_ hI.2.2.1 (fun w hw => ?_) hI.2.2.2.2.1 (yHm_ok hI.2.2.2.2.2.1 (by omega) (yckn_0 b4).2.2 (yckn_0 b6).2.2) hI.2.2.2.2.2.2.1 hI.2.2.2.2.2.2.2) (Nat.lt_of_lt_of_le p1.2 r8.2.2)
      · rw [List.length_append, hI.2.1]; rfl
      · rcases List.mem_append.mp hw with e | e
        · exact hI.2.2.2.1 w e
        · rw [List.mem_singleton.mp e]; exact w1
    · rw [if_neg h0]
      exact yLI_at (r := ym8 B n Z) r8.1 r8.2.1 h0
theorem yLc_I {Z : yZ} (hB : ∀ j, j < n → B j < 256) (hI : yZI n Z) (hk : Z.tk.k ≠ 1) : yLI B n Z (yLc B n Z) := by
  unfold yLc
  by_cases q : 6 ≤ Z.H.k
  · rw [if_pos q]; exact yLI_2 hI (by decide) (by decide)
  · rw [if_neg q]
    have p1 := ytko_nx (B := B) hI.1.1 hk
    have r1 : yri n (0, ynt B n Z.tk) (ynt B n Z.tk).s := ⟨ytkO_nt hB hI.1, Nat.zero_le _, Nat.le_refl _⟩
    have r2 : yri n (yc2 B n Z) (ynt B n Z.tk).s := ysp_I hB r1 (yckw_4 _) (fun a h => by have := (yckw_0 h).1; omega)
    have r3 : yri n (yc3 B n Z) (ynt B n Z.tk).s := ysp_I hB r2 (yck_4 _) (yck_1 (by decide))
    have r4 : yri n (yc4 B n Z) (ynt B n Z.tk).s := ysp_I hB r3 (yckn_4 _ _) (fun a h => by have := (yckn_0 h).1; omega)
    have r5 : yri n (yc5 B n Z) (ynt B n Z.tk).s := ysp_I hB r4 (yck_4 _) (yck_1 (by decide))
    by_cases h0 : (yc5 B n Z).1 = 0
    · rw [if_pos h0]
      obtain ⟨a4, b4, c4⟩ := ysp_0 (r := yc4 B n Z) h0
      obtain ⟨a3, b3, c3⟩ := ysp_0 (r := yc3 B n Z) a4
      obtain ⟨a2, b2, c2⟩ := ysp_0 (r := yc2 B n Z) a3
      obtain ⟨a1, b1, c1⟩ := ysp_0 (r := (0, ynt B n Z.tk)) a2
      have w1 : ywd1 (ynt B n Z.tk).w := r1.1.2.2.1 (Or.inl (yckw_0 b1).1)
      refine yLI_ok (yZI_mk r5.1 hI.2.1 ?_ hI.2.2.2.1 (fun w hw => ?_) (yHc_ok hI.2.2.2.2.2.1 (by omega) (yckn_0 b3).2.2) hI.2.2.2.2.2.2.1 hI.2.2.2.2.2.2.2) (Nat.lt_of_lt_of_le p1.2 r5.2.2)
      · rw [List.length_append, hI.2.2.1]; rfl
      · rcases List.mem_append.mp hw with e | e
        · exact hI.2.2.2.2.1 w e
        · rw [List.mem_singleton.mp e]; exact w1
    · rw [if_neg h0]
      exact yLI_at (r := yc5 B n Z) r5.1 r5.2.1 h0
theorem yLnu_I {Z : yZ} {i lo hi : Nat} (hB : ∀ j, j < n → B j < 256) (hI : yZI n Z) (hk : Z.tk.k ≠ 1) (hi2 : i ≠ 2) (h3 : i = 3 → 1 ≤ lo ∧ hi ≤ 30) (h4 : i = 4 → hi ≤ 99) (h5 : i = 5 → hi ≤ 100) (h6 : i = 6 → hi ≤ 999) : yLI B n Z (yLnu B n i lo hi Z) := by
  unfold yLnu
  by_cases q : Z.fl i = true
  · rw [if_pos q]; exact yLI_2 hI (by decide) (by decide)
  · rw [if_neg q]
    have p1 := ytko_nx (B := B) hI.1.1 hk
    have r1 : yri n (0, ynt B n Z.tk) (ynt B n Z.tk).s := ⟨ytkO_nt hB hI.1, Nat.zero_le _, Nat.le_refl _⟩
    have r2 : yri n (yn2 B n lo hi Z) (ynt B n Z.tk).s := ysp_I hB r1 (yckn_4 _ _) (fun a h => by have := (yckn_0 h).1; omega)
    have r3 : yri n (yn3 B n lo hi Z) (ynt B n Z.tk).s := ysp_I hB r2 (yck_4 _) (yck_1 (by decide))
    by_cases h0 : (yn3 B n lo hi Z).1 = 0
    · rw [if_pos h0]
      obtain ⟨a2, b2, c2⟩ := ysp_0 (r := yn2 B n lo hi Z) h0
      obtain ⟨a1, b1, c1⟩ := ysp_0 (r := (0, ynt B n Z.tk)) a2
      have c : (ynt B n Z.tk).k = 2 ∧ lo ≤ (ynt B n Z.tk).n ∧ (ynt B n Z.tk).n ≤ hi := yckn_0 b1
      have fe : yfu Z.fl i 2 = Z.fl 2 := by unfold yfu; rw [if_neg (by omega)]
      exact yLI_ok (yZI_mk r3.1 hI.2.1 hI.2.2.1 hI.2.2.2.1 hI.2.2.2.2.1 (yHn_ok hI.2.2.2.2.2.1 (fun e => by have := h3 e; omega) (fun e => by have := h4 e; omega) (fun e => by have := h5 e; omega) (fun e => by have := h6 e; omega)) (fun z => hI.2.2.2.2.2.2.1 (fe.symm.trans z)) (fun z => hI.2.2.2.2.2.2.2 (fe.symm.trans z))) (Nat.lt_of_lt_of_le p1.2 r3.2.2)
    · rw [if_neg h0]
      exact yLI_at (r := yn3 B n lo hi Z) r3.1 r3.2.1 h0
theorem yLf_I {Z : yZ} (hn : n ≤ 1600) (hB : ∀ j, j < n → B j < 256) (hI : yZI n Z) (hk : Z.tk.k ≠ 1) : yLI B n Z (yLf B n Z) := by
  unfold yLf
  by_cases q : Z.fl 2 = true
  · rw [if_pos q]; exact yLI_2 hI (by decide) (by decide)
  · rw [if_neg q]
    have p1 := ytko_nx (B := B) hI.1.1 hk
    have hO' := ytkO_nt hB hI.1
    have ok := yEi_ok hB (ynt B n Z.tk) hO'
    have tt := (yEi_T hn (yOr_T (B := B) hn 7) [] (yps.mk (ynt B n Z.tk) [] 0) rfl rfl hO'.1 (Or.inl (by decide))).1
    have e1 : yEi B n (yOr B n 7) (yps.mk (ynt B n Z.tk) [] 0) = yfE B n Z := rfl
    rw [e1] at ok tt
    have r1 : ytkO n ((yfE B n Z).1, (yfE B n Z).2.tk).2 ∧ ((yfE B n Z).1, (yfE B n Z).2.tk).1 ≤ 4 := ⟨ok.1, by have := ok.2.1; show (yfE B n Z).1 ≤ 4; omega⟩
    have r2 : yri n (yf2 B n Z) 0 := ysp_I hB ⟨r1.1, r1.2, Nat.zero_le _⟩ (yck_4 _) (yck_1 (by decide))
    by_cases h0 : (yf2 B n Z).1 = 0
    · rw [if_pos h0]
      obtain ⟨a2, b2, c2⟩ := ysp_0 (r := ((yfE B n Z).1, (yfE B n Z).2.tk)) h0
      have a2' : (yfE B n Z).1 = 0 := a2
      have o := ok.2.2 a2'
      obtain ⟨_, _, _, _, _, _, _, s5, _⟩ := tt a2'
      have s5' : (ynt B n Z.tk).s < (yfE B n Z).2.tk.s := s5
      have c2' : yf2 B n Z = (0, ynt B n (yfE B n Z).2.tk) := c2
      have s6 := (ytko_nx (B := B) ok.1.1 (yck_1 (k := 59) (by decide) _ b2)).2
      have h := hI.2.2.2.2.2.1
      refine yLI_ok (yZI_mk r2.1 hI.2.1 hI.2.2.1 hI.2.2.2.1 hI.2.2.2.2.1 (yOK.mk h.n7 h.k6 h.mi h.vo h.sh h.out h.cock h.quota h.puns h.draw o.1 o.2.2.2) (fun z => ?_) (fun _ => o.2.1)) ?_
      · have : yfu Z.fl 2 2 = true := rfl
        rw [this] at z
        cases z
      · show Z.tk.s < (yf2 B n Z).2.s
        rw [c2']
        show Z.tk.s < (ynt B n (yfE B n Z).2.tk).s
        exact Nat.lt_trans p1.2 (Nat.lt_trans s5' s6)
    · rw [if_neg h0]
      exact yLI_at (r := yf2 B n Z) r2.1 r2.2.1 h0
theorem yLi_I {Z : yZ} (hn : n ≤ 1600) (hB : ∀ j, j < n → B j < 256) (hI : yZI n Z) (hk : Z.tk.k ≠ 1) : yLI B n Z (yLi B n Z) := by
  unfold yLi
  split
  · exact yLm_I hB hI hk
  · split
    · exact yLc_I hB hI hk
    · split
      · exact yLf_I hn hB hI hk
      · split
        · exact yLnu_I hB hI hk (by decide) (fun _ => by decide) (fun h => absurd h (by decide)) (fun h => absurd h (by decide)) (fun h => absurd h (by decide))
        · split
          · exact yLnu_I hB hI hk (by decide) (fun h => absurd h (by decide)) (fun _ => by decide) (fun h => absurd h (by decide)) (fun h => absurd h (by decide))
          · split
            · exact yLnu_I hB hI hk (by decide) (fun h => absurd h (by decide)) (fun h => absurd h (by decide)) (fun _ => by decide) (fun h => absurd h (by decide))
            · split
              · exact yLnu_I hB hI hk (by decide) (fun h => absurd h (by decide)) (fun h => absurd h (by decide)) (fun h => absurd h (by decide)) (fun _ => by decide)
              · exact yLI_2 hI (yrf_2 _).2 (Nat.le_trans (yrf_2 _).1 (by decide))
/-- all lines: the loop of tell() -/
theorem l_tell {D : Nat} {IL0 : zIL} (hn : n ≤ 1600) (hB : ∀ j, j < n → B j < 256) (hD : 54 ≤ D) : ∀ (k i : Nat) (IL : zIL) (Z : yZ), i + k = 1601 → yZC u B n Z IL → yZI n Z → yfL u IL0 IL → (∀ IL', yfL u IL0 IL' → (yTl B n k Z).1 = 0 → yZC u B n (yTl B n k Z).2 IL' → Q (zFx t, IL') (some (.int 1))) → (∀ IL', yfL u IL0 IL' → (yTl B n k Z).1 ≠ 0 → IL'.1 1 1 = nI (yTl B n k Z).1 → IL'.1 1 2 = nI (yTl B n k Z).2.tk.s → Q (zFx t, IL') (some (.int 0))) → gX5_tell xs D Q 26 [.ref 1, .ref (zH u), .int (nI i)] [] (zFx t, IL) := by
  intro k
  induction k with
  | zero =>
    intro i IL Z hi hZ hI fr h1 h0
    refine sX5_tell_26 t u _ IL (zln (k := 1600) rfl rfl (by decide) (by omega) (fun _ => zdec (fun _ => h1 IL fr rfl hZ) (fun z => absurd hZ.2.2.1 z)) (fun z => by omega))
  | succ k ih =>
    intro i IL Z hi hZ hI fr h1 h0
    have k7 := hZ.2.1.1
    have kk := hI.1.2.2.2.2.2
    unfold yTl at h1 h0
    refine sX5_tell_26 t u _ IL (zln (k := 1600) rfl rfl (by decide) (by omega) (fun z => by omega) (fun _ => zdec (fun _ => zkn (c := 1) k7 rfl (by omega) (by decide) (fun e => ?_) (fun e => ?_)) (fun z => absurd hZ.2.2.1 z)))
    · rw [if_pos e] at h1
      exact zdec (fun _ => h1 IL fr rfl hZ) (fun z => absurd hZ.2.2.1 z)
    · rw [if_neg e] at h1 h0
      have li := yLi_I hn hB hI e
      -- behind a line
      have nx : ∀ I1, yfL u IL I1 → yZP u B n (yLi B n Z) I1 → gX5_tell xs D Q 26 [.ref 1, .ref (zH u), .int (nI i + 1)] [] (zFx t, I1) := fun I1 f1 P1 => by
        rw [nI_1]
        generalize yLi B n Z = r at li P1 h1 h0
        by_cases z0 : r.1 = 0
        · rw [if_pos z0] at h1 h0
          exact ih (i + 1) I1 r.2 (by omega) (P1.1 z0) (li.2.2 z0).1 (yfL_tr fr f1) h1 h0
        · rw [if_neg z0] at h1 h0
          have P := P1.2 z0
          have ne : I1.1 1 1 ≠ 0 := by rw [P.1]; exact nI_ne z0 (by have := li.2.1; omega)
          have fin := h0 I1 (yfL_tr fr f1) z0 P.1 P.2
          exact sX5_tell_26 t u _ I1 (zdec (fun _ => zdec (fun z => absurd z ne) (fun _ => fin)) (fun _ => zdec (fun z => absurd z ne) (fun _ => zdec (fun z => absurd z ne) (fun _ => fin))))
      clear h1 h0 ih li
      unfold yLi at nx
      obtain ⟨D, rfl⟩ : ∃ D', D = D' + 7 := ⟨D - 7, by omega⟩
      refine zkn (c := 100) k7 rfl (by omega) (by decide) (fun e1 => ?_) (fun e1 => ?_)
      · rw [if_pos e1] at nx
        exact c_memberLine hn hB hZ hI e1 (fun I1 f1 P1 => kV (nx I1 f1 P1))
      rw [if_neg e1] at nx
      refine zkn (c := 101) k7 rfl (by omega) (by decide) (fun e2 => ?_) (fun e2 => ?_)
      · rw [if_pos e2] at nx
        exact c_clauseLine hn hB hZ hI e2 (fun I1 f1 P1 => kV (nx I1 f1 P1))
      rw [if_neg e2] at nx
      refine zkn (c := 102) k7 rfl (by omega) (by decide) (fun e3 => ?_) (fun e3 => ?_)
      · rw [if_pos e3] at nx
        exact c_formulaLine hn hB hD hZ hI e3 (fun I1 f1 P1 => kV (nx I1 f1 P1))
      rw [if_neg e3] at nx
      refine zkn (c := 103) k7 rfl (by omega) (by decide) (fun e4 => ?_) (fun e4 => ?_)
      · rw [if_pos e4] at nx
        exact c_numberLine (i := 3) hn hB rfl rfl (by decide) (by decide) hZ hI (by decide) e4 (fun I1 v f1 P1 => kI (nx _ f1 P1))
      rw [if_neg e4] at nx
      refine zkn (c := 104) k7 rfl (by omega) (by decide) (fun e5 => ?_) (fun e5 => ?_)
      · rw [if_pos e5] at nx
        exact c_numberLine (i := 4) hn hB rfl rfl (by decide) (by decide) hZ hI (by decide) e5 (fun I1 v f1 P1 => kI (nx _ f1 P1))
      rw [if_neg e5] at nx
      refine zkn (c := 105) k7 rfl (by omega) (by decide) (fun e6 => ?_) (fun e6 => ?_)
      · rw [if_pos e6] at nx
        exact c_numberLine (i := 5) hn hB rfl rfl (by decide) (by decide) hZ hI (by decide) e6 (fun I1 v f1 P1 => kI (nx _ f1 P1))
      rw [if_neg e6] at nx
      refine zkn (c := 106) k7 rfl (by omega) (by decide) (fun e7 => ?_) (fun e7 => ?_)
      · rw [if_pos e7] at nx
        exact c_numberLine (i := 6) hn hB rfl rfl (by decide) (by decide) hZ hI (by decide) e7 (fun I1 v f1 P1 => kI (nx _ f1 P1))
      rw [if_neg e7] at nx
      exact c_refS (d := D + 5) hZ.1 hI.1 hZ.2.1 hZ.2.2.1 (fun I1 k1 S1 => kV (nx I1 (yfL_k k1) ⟨fun z => absurd z (yrf_2 _).2, fun z => S1.2.2.2.2 z⟩))
/-- a House of nothing -/
def yH0 : yH := yH.mk 0 0 (fun _ => 0) (fun _ => 0) (fun _ => 0) 0 10 1 0 0 [] 0
def yZ0 (B : Nat → Nat) (n : Nat) : yZ := yZ.mk (ytok B n 0) [] [] (fun _ => false) yH0
theorem yH0_ok : yOK yH0 := yOK.mk (by decide) (by decide) (fun j hj => absurd hj (Nat.not_lt_zero j)) (fun j hj => absurd hj (Nat.not_lt_zero j)) (fun j hj => absurd hj (Nat.not_lt_zero j)) (fun i _ => b_0 i) (by unfold yin; decide) (by unfold yin; decide) (by unfold yin; decide) (by unfold yin; decide) ⟨by decide, Or.inl rfl⟩ (fun s hs => by cases hs)
theorem yZ0_I (hB : ∀ j, j < n → B j < 256) : yZI n (yZ0 B n) := yZI_mk ⟨(ytko_tok (Nat.zero_le n)).1, ytkg_tok hB⟩ rfl rfl (fun w hw => by cases hw) (fun w hw => by cases hw) yH0_ok (fun _ => ⟨rfl, rfl⟩) (fun z => by cases z)
theorem c_tell {D : Nat} (hn : n ≤ 1600) (hB : ∀ j, j < n → B j < 256) (hD : 55 ≤ D) (ht : ytp n B IL) (hH : yCH u yH0 IL) (h1 : ∀ IL', yfL u IL IL' → (yTl B n 1601 (yZ0 B n)).1 = 0 → yZC u B n (yTl B n 1601 (yZ0 B n)).2 IL' → Q (zFx t, IL') (some (.int 1))) (h0 : ∀ IL', yfL u IL IL' → (yTl B n 1601 (yZ0 B n)).1 ≠ 0 → IL'.1 1 1 = nI (yTl B n 1601 (yZ0 B n)).1 → IL'.1 1 2 = nI (yTl B n 1601 (yZ0 B n)).2.tk.s → Q (zFx t, IL') (some (.int 0))) : zcall xs D 56 (zFx t, IL) [.ref 1, .ref (zH u)] Q := by
  have g := zH_ge u
  obtain ⟨D, rfl⟩ : ∃ D', D = D' + 6 := ⟨D - 6, by omega⟩
  refine sX5_tell (d := D + 5) t u IL ?_
  have fw : ∀ c j, ¬ (c = 1 ∧ (j = 1 ∨ j = 2 ∨ j = 6 ∨ j = 9)) → (zwi (zwi (zwi (zwi IL 1 1 0) 1 2 (-1)) 1 6 0) 1 9 0).1 c j = IL.1 c j := fun c j z => by
    by_cases e : c = 1
    · subst e
      rw [zwi_at, if_neg (by omega), zwi_at, if_neg (by omega), zwi_at, if_neg (by omega), zwi_at, if_neg (by omega)]
    · rw [zwi_ne e, zwi_ne e, zwi_ne e, zwi_ne e]
  have w1 : (zwi (zwi (zwi (zwi IL 1 1 0) 1 2 (-1)) 1 6 0) 1 9 0).1 1 1 = 0 := by rw [zwi_at, if_neg (by decide), zwi_at, if_neg (by decide), zwi_at, if_neg (by decide), zwi_at, if_pos rfl]
  have w12 : (zwi (zwi (zwi (zwi IL 1 1 0) 1 2 (-1)) 1 6 0) 1 9 0).1 1 2 = -1 := by rw [zwi_at, if_neg (by decide), zwi_at, if_neg (by decide), zwi_at, if_pos rfl]
  have w6 : (zwi (zwi (zwi (zwi IL 1 1 0) 1 2 (-1)) 1 6 0) 1 9 0).1 1 6 = 0 := by rw [zwi_at, if_neg (by decide), zwi_at, if_pos rfl]
  have w9 : (zwi (zwi (zwi (zwi IL 1 1 0) 1 2 (-1)) 1 6 0) 1 9 0).1 1 9 = nI 0 := by rw [zwi_at, if_pos rfl]; rfl
  have w2 : (zwi (zwi (zwi (zwi IL 1 1 0) 1 2 (-1)) 1 6 0) 1 9 0).2 = IL.2 := rfl
  generalize zwi (zwi (zwi (zwi IL 1 1 0) 1 2 (-1)) 1 6 0) 1 9 0 = J at fw w1 w12 w6 w9 w2 ⊢
  have fJ : yfL u IL J := ⟨fun c j a _ => fw c j (by omega), fun c j _ _ _ => by rw [w2]⟩
  refine c_advance (d := D) hn hB (ytp_L ht fJ) (Nat.zero_le n) w9 w12 (fun I1 f1 t1 => kV ?_)
  have f1L : yfL u IL I1 := yfL_tr fJ (yfL_k (yfk_p f1))
  refine l_tell hn hB (by omega) 1601 0 I1 (yZ0 B n) rfl (yZC_mk (ytp_L ht f1L) t1 (by rw [f1.1 1 1 (by omega)]; exact w1) (fun i _ _ => ?_) (fun j hj => absurd hj (Nat.not_lt_zero j)) (fun j hj => absurd hj (Nat.not_lt_zero j)) (yCH_k hH (fun c j z => by rw [f1.1 c j (by omega)]; exact fw c j (by omega)))) (yZ0_I hB) f1L h1 h0
  rw [f1.1 1 6 (by omega), w6]
  exact b_0 i
end CTELL2
