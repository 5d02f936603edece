/-! the tree of the reference: a key less -/
theorem MT.delete {D D' : DD} {c k : Int} (h : MT D) (hW : ∀ i, 0 ≤ i → i < 80 → th D i → MW D i) (hc : 1 ≤ c ∧ c < 80) (hTc : th D c) (hk : Rz 240 37 D c = k) (h0 : sm (mc D c) (Rz 240 42 D c) = 0) (hm : ∀ b, b ∈ [35, 37, 38, 39, 41] → D' b = D b) (h36 : ∀ i, 0 ≤ i → i < 80 → Rz 240 36 D' i = if i = c then 0 else Rz 240 36 D i)
    (hMS : ∀ i, 0 ≤ i → i < 80 → th D i → i ≠ k → i ≠ c → sm (mc D' i) (Rz 240 42 D' i) = sm (mc D i) (Rz 240 42 D i) ∧ ∀ j, 0 ≤ j → j < sm (mc D i) (Rz 240 42 D i) → me D' i j = me D i j ∧ mn_ D' i j = mn_ D i j)
    (hA : ∀ j, 0 ≤ j → j < sm (mc D' k) (Rz 240 42 D' k) → ∃ i, 0 ≤ i ∧ i < sm (mc D k) (Rz 240 42 D k) ∧ me D k i ≠ c ∧ me D' k j = me D k i ∧ mn_ D' k j = mn_ D k i)
    (hB : ∀ i, 0 ≤ i → i < sm (mc D k) (Rz 240 42 D k) → me D k i ≠ c → ∃ j, 0 ≤ j ∧ j < sm (mc D' k) (Rz 240 42 D' k) ∧ me D' k j = me D k i)
    (h57 : ∀ r, 0 ≤ r → r < 256 → Rz 768 57 D' r = Rz 768 57 D r - if Rz 240 41 D c = r then 1 else 0) : MT D' := by
  have e37 : Rz 240 37 D' = Rz 240 37 D := Rz_fn (hm 37 (by decide))
  have e38 : Rz 240 38 D' = Rz 240 38 D := Rz_fn (hm 38 (by decide))
  have e39 : Rz 240 39 D' = Rz 240 39 D := Rz_fn (hm 39 (by decide))
  have e41 : Rz 240 41 D' = Rz 240 41 D := Rz_fn (hm 41 (by decide))
  obtain ⟨a1, a2, a3, a4, a5, a6⟩ := h
  have T36 : ∀ i, 0 ≤ i → i < 80 → (Rz 240 36 D' i = 1 ↔ i ≠ c ∧ Rz 240 36 D i = 1) := fun i b d => by
    rw [h36 i b d]
    by_cases q : i = c
    · rw [if_pos q]; exact ⟨fun z => by omega, fun z => absurd q z.1⟩
    · rw [if_neg q]; exact ⟨fun z => ⟨q, z⟩, fun z => z.2⟩
  unfold MT
  rw [hm 35 (by decide), e37, e38, e39, e41]
  refine ⟨a1, fun i y z => ?_, ⟨(T36 0 (by omega) (by omega)).2 ⟨by omega, a3.1⟩, a3.2⟩, fun i y z w => ?_, fun i j y z w u v => ?_, fun r x y => ?_⟩
  · obtain ⟨b1, b2⟩ := a2 i y z
    rw [h36 i y z]
    by_cases q : i = c
    · rw [if_pos q]; exact ⟨Or.inl rfl, fun w => by omega⟩
    · rw [if_neg q]; exact ⟨b1, b2⟩
  · obtain ⟨w1, w2⟩ := (T36 i (by omega) z).1 w
    obtain ⟨b1, b2, j, b3, b4, b5⟩ := a4 i y z w2
    have hpc : Rz 240 37 D i ≠ c := fun n => by rw [n, h0] at b4; omega
    refine ⟨b1, (T36 _ b1.1 (by omega)).2 ⟨hpc, b2⟩, ?_⟩
    by_cases g : Rz 240 37 D i = k
    · rw [g] at b4 b5 ⊢
      obtain ⟨j', c1, c2, c3⟩ := hB j b3 b4 (by rw [b5]; exact w1)
      exact ⟨j', c1, c2, by rw [c3]; exact b5⟩
    · obtain ⟨c1, c2⟩ := hMS _ b1.1 (by omega) b2 g hpc
      exact ⟨j, b3, by rw [c1]; exact b4, by rw [(c2 j b3 b4).1]; exact b5⟩
  · obtain ⟨w1, w2⟩ := (T36 i y z).1 w
    have old : ∀ j, 0 ≤ j → j < sm (mc D i) (Rz 240 42 D i) → me D i j ≠ c → Rz 240 36 D' (me D i j) = 1 ∧ Rz 240 37 D (me D i j) = i ∧ Rz 240 38 D (me D i j) = mn_ D i j := fun j d e n => by
      obtain ⟨y1, y2, y3⟩ := a5 i j y z w2 d e
      have hb := ((hW i y z w2).2.2.1 j d e).2
      exact ⟨(T36 _ hb.1 hb.2).2 ⟨n, y1⟩, y2, y3⟩
    by_cases g : i = k
    · subst g
      obtain ⟨i', q1, q2, q3, q4, q5⟩ := hA j u v
      rw [q4, q5]
      exact old i' q1 q2 q3
    · obtain ⟨c1, c2⟩ := hMS i y z w2 g w1
      rw [c1] at v
      rw [(c2 j u v).1, (c2 j u v).2]
      exact old j u v (fun n => by
        have := (a5 i j y z w2 u v).2.1
        rw [n, hk] at this
        exact g this.symm)
  · rw [h57 r x y, a6 r x y]
    have e : (sm (fun i => if Rz 240 36 D' i = 1 ∧ Rz 240 41 D i = r then 1 else 0) 80) = sm (uI (fun i => if Rz 240 36 D i = 1 ∧ Rz 240 41 D i = r then 1 else 0) c 0) 80 := by
      refine sm_cong (fun i y z => ?_)
      unfold uI
      rw [h36 i y z]
      by_cases q : i = c
      · rw [if_pos q, if_pos q, if_neg (fun w => absurd w.1 (by decide))]
      · rw [if_neg q, if_neg q]
    have e2 : (if Rz 240 36 D c = 1 ∧ Rz 240 41 D c = r then (1 : Int) else 0) = if Rz 240 41 D c = r then 1 else 0 := by
      by_cases q : Rz 240 41 D c = r
      · rw [if_pos ⟨hTc, q⟩, if_pos q]
      · rw [if_neg (fun w => q w.2), if_neg q]
    rw [e, sm_upd (by omega) 80 80 rfl, if_neg (show ¬ (80 : Int) ≤ c by omega), e2]
    omega
