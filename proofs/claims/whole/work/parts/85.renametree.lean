/-! the tree of the reference: another name -/
theorem MT.rename {D D' : DD} {c k x : Int} (h : MT D) (hW : ∀ i, 0 ≤ i → i < 80 → th D i → MW D i) (hc : 1 ≤ c ∧ c < 80) (hTc : th D c) (hk : Rz 240 37 D c = k) (hm : ∀ b, b ∈ [35, 36, 37, 39, 41, 57] → D' b = D b) (h38 : ∀ i, 0 ≤ i → i < 80 → Rz 240 38 D' i = if i = c then x else Rz 240 38 D i)
    (hMS : ∀ i, 0 ≤ i → i < 80 → th D i → i ≠ k → sm (mc D' i) (Rz 240 42 D' i) = sm (mc D i) (Rz 240 42 D i) ∧ ∀ j, 0 ≤ j → j < sm (mc D i) (Rz 240 42 D i) → me D' i j = me D i j ∧ mn_ D' i j = mn_ D i j)
    (hA : ∀ j, 0 ≤ j → j < sm (mc D' k) (Rz 240 42 D' k) → (me D' k j = c ∧ mn_ D' k j = x) ∨ ∃ i, 0 ≤ i ∧ i < sm (mc D k) (Rz 240 42 D k) ∧ me D k i ≠ c ∧ me D' k j = me D k i ∧ mn_ D' k j = mn_ D k i)
    (hB : ∀ i, 0 ≤ i → i < sm (mc D k) (Rz 240 42 D k) → ∃ j, 0 ≤ j ∧ j < sm (mc D' k) (Rz 240 42 D' k) ∧ me D' k j = me D k i) : MT D' := by
  have e36 : Rz 240 36 D' = Rz 240 36 D := Rz_fn (hm 36 (by decide))
  have e37 : Rz 240 37 D' = Rz 240 37 D := Rz_fn (hm 37 (by decide))
  have e39 : Rz 240 39 D' = Rz 240 39 D := Rz_fn (hm 39 (by decide))
  have e41 : Rz 240 41 D' = Rz 240 41 D := Rz_fn (hm 41 (by decide))
  have e57 : Rz 768 57 D' = Rz 768 57 D := Rz_fn (hm 57 (by decide))
  obtain ⟨a1, a2, a3, a4, a5, a6⟩ := h
  unfold MT
  rw [hm 35 (by decide), e36, e37, e39, e41, e57]
  refine ⟨a1, a2, a3, fun i y z w => ?_, fun i j y z w u v => ?_, a6⟩
  · obtain ⟨b1, b2, j, b3, b4, b5⟩ := a4 i y z w
    refine ⟨b1, b2, ?_⟩
    by_cases g : Rz 240 37 D i = k
    · rw [g] at b4 b5 ⊢
      obtain ⟨j', c1, c2, c3⟩ := hB j b3 b4
      exact ⟨j', c1, c2, by rw [c3]; exact b5⟩
    · obtain ⟨c1, c2⟩ := hMS _ b1.1 (by omega) b2 g
      exact ⟨j, b3, by rw [c1]; exact b4, by rw [(c2 j b3 b4).1]; exact b5⟩
  · have old : ∀ j, 0 ≤ j → j < sm (mc D i) (Rz 240 42 D i) → (me D i j ≠ c → Rz 240 38 D' (me D i j) = mn_ D i j) ∧ Rz 240 36 D (me D i j) = 1 ∧ Rz 240 37 D (me D i j) = i := fun j d e => by
      obtain ⟨y1, y2, y3⟩ := a5 i j y z w d e
      have hb := ((hW i y z w).2.2.1 j d e).2
      exact ⟨fun n => by rw [h38 _ hb.1 hb.2, if_neg n]; exact y3, y1, y2⟩
    by_cases g : i = k
    · subst g
      rcases hA j u v with ⟨q1, q2⟩ | ⟨i', q1, q2, q3, q4, q5⟩
      · rw [q1, q2]
        exact ⟨hTc, hk, by rw [h38 c (by omega) hc.2, if_pos rfl]⟩
      · rw [q4, q5]
        obtain ⟨o1, o2, o3⟩ := old i' q1 q2
        exact ⟨o2, o3, o1 q3⟩
    · obtain ⟨c1, c2⟩ := hMS i y z w g
      rw [c1] at v
      rw [(c2 j u v).1, (c2 j u v).2]
      obtain ⟨o1, o2, o3⟩ := old j u v
      exact ⟨o2, o3, o1 (fun n => g (by rw [n, hk] at o3; exact o3.symm))⟩
