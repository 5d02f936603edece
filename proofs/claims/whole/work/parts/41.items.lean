/-! rows of items in the units -/
theorem ins_loop {q m c : Int} (hq : 4 ≤ q) (hm : 0 ≤ m) (hc : q + 2 + c ≤ 1024) : ∀ (f : Nat) (j : Int) (D : DD), m ≤ j → j ≤ c → (j - m).toNat < f → ∃ D', (∀ K, pI_insertItem_11 q m f j D K = K D') ∧ (∀ b, b ≠ 4 → D' b = D b) ∧ ∀ i, Rz 1024 4 D' i = if q + 1 + m < i ∧ i ≤ q + 1 + j then Rz 1024 4 D (i - 1) else Rz 1024 4 D i := by
  intro f
  induction f with
  | zero => intro j D h1 h2 h3; omega
  | succ f ih =>
    intro j D h1 h2 h3
    by_cases g : m < j
    · obtain ⟨D', e1, e2, e3⟩ := ih (j - 1) (Tz 1024 4 D (q + 1 + j) (Rz 1024 4 D (q + 1 + (j - 1)))) (by omega) (by omega) (by omega)
      refine ⟨D', fun K => ?_, fun b hb => (e2 b hb).trans (T_ot hb), fun i => ?_⟩
      · rw [pI_insertItem_11, w32_of (z := m) (by omega), w32_of (z := j) (by omega), if_pos g]
        simp only [gD]
        unfold pI_item
        rw [rd_R (by omega), sto_T (by omega)]
        exact e1 K
      · rw [e3]
        by_cases q1 : q + 1 + m < i ∧ i ≤ q + 1 + (j - 1)
        · rw [if_pos q1, if_pos (by omega), R_T_ne (by omega)]
        · rw [if_neg q1]
          by_cases q2 : i = q + 1 + j
          · rw [q2, R_T_eq ⟨by omega, by omega⟩, if_pos (by omega)]
            congr 1
            omega
          · rw [R_T_ne q2, if_neg (by omega)]
    · refine ⟨D, fun K => ?_, fun _ _ => rfl, fun i => ?_⟩
      · rw [pI_insertItem_11, w32_of (z := m) (by omega), w32_of (z := j) (by omega), if_neg g]
      · rw [if_neg (by omega)]
theorem insert_c {D : DD} {q m c x : Int} (hq : 4 ≤ q) (hm : 0 ≤ m ∧ m ≤ c) (hc : q + 2 + c ≤ 1024) (hn : Rz 1024 4 D q = c) :
    ∃ D', pI_insertItem q m x D = okR 0 D' ∧ (∀ b, b ≠ 4 → D' b = D b) ∧ ∀ i, Rz 1024 4 D' i = if i = q then c + 1 else if i = q + 1 + m then x else if q + 1 + m < i ∧ i ≤ q + 1 + c then Rz 1024 4 D (i - 1) else Rz 1024 4 D i := by
  obtain ⟨D1, e1, e2, e3⟩ := ins_loop (q := q) (m := m) (c := c) hq hm.1 hc fu c D hm.2 (Int.le_refl _) (fu_gt (by omega))
  unfold pI_insertItem pI_itemCount
  simp only [ltR, gD]
  rw [rd_R (by omega), hn, e1, sto_T (by omega), sto_T (by omega)]
  refine ⟨_, rfl, fun b hb => by rw [T_ot hb, T_ot hb, e2 b hb], fun i => ?_⟩
  by_cases q1 : i = q
  · rw [if_pos q1, q1, R_T_eq ⟨by omega, by omega⟩]
  · rw [if_neg q1, R_T_ne q1]
    by_cases q2 : i = q + 1 + m
    · rw [if_pos q2, q2, R_T_eq ⟨by omega, by omega⟩]
    · rw [if_neg q2, R_T_ne q2, e3]
theorem rem_loop {q c : Int} (hq : 4 ≤ q) (hc : q + 1 + c ≤ 1024) : ∀ (f : Nat) (j : Int) (D : DD), 0 ≤ j → j ≤ c - 1 → (c - 1 - j).toNat < f → ∃ D', (∀ K, pI_removeItem_11 q (c - 1) f j D K = K D') ∧ (∀ b, b ≠ 4 → D' b = D b) ∧ ∀ i, Rz 1024 4 D' i = if q + 1 + j ≤ i ∧ i < q + c then Rz 1024 4 D (i + 1) else Rz 1024 4 D i := by
  intro f
  induction f with
  | zero => intro j D h1 h2 h3; omega
  | succ f ih =>
    intro j D h1 h2 h3
    by_cases g : j < c - 1
    · obtain ⟨D', e1, e2, e3⟩ := ih (j + 1) (Tz 1024 4 D (q + 1 + j) (Rz 1024 4 D (q + 1 + (j + 1)))) (by omega) (by omega) (by omega)
      refine ⟨D', fun K => ?_, fun b hb => (e2 b hb).trans (T_ot hb), fun i => ?_⟩
      · rw [pI_removeItem_11, w32_of (z := j) (by omega), w32_of (z := c - 1) (by omega), if_pos g]
        simp only [gD]
        unfold pI_item
        rw [rd_R (by omega), sto_T (by omega)]
        exact e1 K
      · rw [e3]
        by_cases q1 : q + 1 + (j + 1) ≤ i ∧ i < q + c
        · rw [if_pos q1, if_pos (by omega), R_T_ne (by omega)]
        · rw [if_neg q1]
          by_cases q2 : i = q + 1 + j
          · rw [q2, R_T_eq ⟨by omega, by omega⟩, if_pos (by omega)]
            congr 1
            omega
          · rw [R_T_ne q2, if_neg (by omega)]
    · refine ⟨D, fun K => ?_, fun _ _ => rfl, fun i => ?_⟩
      · rw [pI_removeItem_11, w32_of (z := j) (by omega), w32_of (z := c - 1) (by omega), if_neg g]
      · rw [if_neg (by omega)]
theorem remove_c {D : DD} {q m c : Int} (hq : 4 ≤ q) (hm : 0 ≤ m ∧ m < c) (hc : q + 1 + c ≤ 1024) (hn : Rz 1024 4 D q = c) :
    ∃ D', pI_removeItem q m D = okR 0 D' ∧ (∀ b, b ≠ 4 → D' b = D b) ∧ ∀ i, Rz 1024 4 D' i = if i = q then c - 1 else if q + 1 + m ≤ i ∧ i < q + c then Rz 1024 4 D (i + 1) else Rz 1024 4 D i := by
  obtain ⟨D1, e1, e2, e3⟩ := rem_loop (q := q) (c := c) hq hc fu m D hm.1 (by omega) (fu_gt (by omega))
  unfold pI_removeItem pI_itemCount
  simp only [ltR, gD]
  rw [rd_R (by omega), hn, e1, sto_T (by omega)]
  refine ⟨_, rfl, fun b hb => by rw [T_ot hb, e2 b hb], fun i => ?_⟩
  by_cases q1 : i = q
  · rw [if_pos q1, q1, R_T_eq ⟨by omega, by omega⟩]
  · rw [if_neg q1, R_T_ne q1, e3]
theorem mov_loop {q m c t : Int} (hq : 4 ≤ q) (ht : 4 ≤ t) (hm : 0 ≤ m) (hc : q + 1 + c ≤ 1024) (htc : t + 1 + (c - m) ≤ 1024) (hap : q + 1 + c ≤ t ∨ t + 1 + (c - m) ≤ q) : ∀ (f : Nat) (j : Int) (D : DD), m ≤ j → j ≤ c → (c - j).toNat < f →
    ∃ D', (∀ K, pI_moveItems_22 q m t c f j D K = K D') ∧ (∀ b, b ≠ 4 → D' b = D b) ∧ ∀ i, Rz 1024 4 D' i = if t + 1 + (j - m) ≤ i ∧ i < t + 1 + (c - m) then Rz 1024 4 D (q + 1 + m + (i - (t + 1))) else Rz 1024 4 D i := by
  intro f
  induction f with
  | zero => intro j D h1 h2 h3; omega
  | succ f ih =>
    intro j D h1 h2 h3
    by_cases g : j < c
    · obtain ⟨D', e1, e2, e3⟩ := ih (j + 1) (Tz 1024 4 D (t + 1 + j - m) (Rz 1024 4 D (q + 1 + j))) (by omega) (by omega) (by omega)
      refine ⟨D', fun K => ?_, fun b hb => (e2 b hb).trans (T_ot hb), fun i => ?_⟩
      · rw [pI_moveItems_22, w32_of (z := j) (by omega), w32_of (z := c) (by omega), if_pos g]
        simp only [gD]
        unfold pI_item
        rw [rd_R (by omega), sto_T (by omega)]
        exact e1 K
      · rw [e3]
        by_cases q1 : t + 1 + (j + 1 - m) ≤ i ∧ i < t + 1 + (c - m)
        · rw [if_pos q1, if_pos (by omega), R_T_ne (by omega)]
        · rw [if_neg q1]
          by_cases q2 : i = t + 1 + j - m
          · rw [q2, R_T_eq ⟨by omega, by omega⟩, if_pos (by omega)]
            congr 1
            omega
          · rw [R_T_ne q2, if_neg (by omega)]
    · refine ⟨D, fun K => ?_, fun _ _ => rfl, fun i => ?_⟩
      · rw [pI_moveItems_22, w32_of (z := j) (by omega), w32_of (z := c) (by omega), if_neg g]
      · rw [if_neg (by omega)]
theorem move_c {D : DD} {q m c t : Int} (hq : 4 ≤ q) (ht : 4 ≤ t) (hm : 0 ≤ m ∧ m ≤ c) (hc : q + 1 + c ≤ 1024) (htc : t + 1 + (c - m) ≤ 1024) (hap : q + 1 + c ≤ t ∨ t + 1 + (c - m) ≤ q) (hn : Rz 1024 4 D q = c) :
    ∃ D', pI_moveItems q m t D = okR 0 D' ∧ (∀ b, b ≠ 4 → D' b = D b) ∧ ∀ i, Rz 1024 4 D' i = if i = q then m else if i = t then c - m else if t + 1 ≤ i ∧ i < t + 1 + (c - m) then Rz 1024 4 D (q + 1 + m + (i - (t + 1))) else Rz 1024 4 D i := by
  obtain ⟨D1, e1, e2, e3⟩ := mov_loop (q := q) (m := m) (c := c) (t := t) hq ht hm.1 hc htc hap fu m (Tz 1024 4 D t (c - m)) (by omega) hm.2 (fu_gt (by omega))
  unfold pI_moveItems pI_itemCount
  simp only [ltR, gD]
  rw [rd_R (by omega), hn, sto_T (by omega), e1, sto_T (by omega)]
  refine ⟨_, rfl, fun b hb => by rw [T_ot hb, e2 b hb, T_ot hb], fun i => ?_⟩
  by_cases q1 : i = q
  · rw [if_pos q1, q1, R_T_eq ⟨by omega, by omega⟩]
  · rw [if_neg q1, R_T_ne q1, e3]
    by_cases q2 : i = t
    · rw [if_pos q2, q2, if_neg (by omega), R_T_eq ⟨by omega, by omega⟩]
    · rw [if_neg q2]
      by_cases q3 : t + 1 ≤ i ∧ i < t + 1 + (c - m)
      · rw [if_pos (by omega), if_pos q3, R_T_ne (by omega)]
      · rw [if_neg (by omega), if_neg q3, R_T_ne q2]
theorem num_loop {D : DD} {q c x m : Int} (hq : 4 ≤ q) (hc : q + 1 + c ≤ 1024) (hb : ∀ j, 0 ≤ j → j < c → 0 ≤ Rz 1024 4 D (q + 1 + j) ∧ Rz 1024 4 D (q + 1 + j) ≤ 100000000) (hm : 0 ≤ m ∧ m < c) (hx : Rz 1024 4 D (q + 1 + m) = x) (hne : ∀ j, 0 ≤ j → j < m → Rz 1024 4 D (q + 1 + j) ≠ x) : ∀ (f : Nat) (j : Int), 0 ≤ j → j ≤ m → (m - j).toNat < f → pI_numberOfItem_9 q x c f j D = okR m D := by
  have hxb := hb m hm.1 hm.2
  intro f
  induction f with
  | zero => intro j h1 h2 h3; omega
  | succ f ih =>
    intro j h1 h2 h3
    have hbj := hb j h1 (by omega)
    rw [pI_numberOfItem_9, w32_of (z := j) (by omega), w32_of (z := c) (by omega), if_pos (by omega)]
    unfold pI_item
    rw [rd_R (by omega), w32_of (z := x) (by omega), w32_of (by omega)]
    by_cases g : j = m
    · subst g
      rw [if_pos hx]
    · rw [if_neg (hne j h1 (by omega))]
      exact ih (j + 1) (by omega) (by omega) (by omega)
theorem number_c {D : DD} {q c x m : Int} (hq : 4 ≤ q) (hc : q + 1 + c ≤ 1024) (hn : Rz 1024 4 D q = c) (hb : ∀ j, 0 ≤ j → j < c → 0 ≤ Rz 1024 4 D (q + 1 + j) ∧ Rz 1024 4 D (q + 1 + j) ≤ 100000000) (hm : 0 ≤ m ∧ m < c) (hx : Rz 1024 4 D (q + 1 + m) = x) (hne : ∀ j, 0 ≤ j → j < m → Rz 1024 4 D (q + 1 + j) ≠ x) : pI_numberOfItem q x D = okR m D := by
  unfold pI_numberOfItem pI_itemCount
  simp only [ltR]
  rw [rd_R (by omega), hn]
  exact num_loop hq hc hb hm hx hne fu 0 (by omega) hm.1 (fu_gt (by omega))
