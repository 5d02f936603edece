/-! the tree of the reference: a key more -/
theorem MS.list {D D' : DD} {i : Int} (h : MS D D' i) (hW : MW D i) : sm (mc D' i) (Rz 240 42 D' i) = sm (mc D i) (Rz 240 42 D i) ∧ ∀ j, 0 ≤ j → j < sm (mc D i) (Rz 240 42 D i) → me D' i j = me D i j ∧ mn_ D' i j = mn_ D i j := by
  have e42 := h.1 42 (by decide)
  have tot := hW.tot (i := Rz 240 42 D i) hW.1.1 (Int.le_refl _)
  have n8 := hW.1
  refine ⟨?_, fun j a b => ⟨h.2.2 46 (by decide) j a (by omega), h.2.2 47 (by decide) j a (by omega)⟩⟩
  rw [e42]
  exact sm_cong (fun j a b => h.2.1 45 (by decide) j a (by omega))
theorem MT.make {D D' : DD} {K k x t N : Int} (h : MT D) (hW : ∀ i, 0 ≤ i → i < 80 → th D i → MW D i) (hK : D 35 0 = K) (hK0 : K < 80) (hTK : ¬ th D K) (hk : 0 ≤ k ∧ k < 80) (hTk : th D k) (h35 : D' 35 0 = K + 1)
    (h36 : ∀ i, 0 ≤ i → i < 80 → Rz 240 36 D' i = if i = K then 1 else Rz 240 36 D i) (hMS : ∀ i, 0 ≤ i → i < 80 → i ≠ K → i ≠ k → MS D D' i) (hpk : ∀ a, a ∈ [37, 38, 39, 41] → Rz 240 a D' k = Rz 240 a D k)
    (m37 : Rz 240 37 D' K = k) (m38 : Rz 240 38 D' K = x) (m41 : Rz 240 41 D' K = Rz 240 41 D k) (m42 : Rz 240 42 D' K = 0) (hN : sm (mc D k) (Rz 240 42 D k) = N) (hN' : sm (mc D' k) (Rz 240 42 D' k) = N + 1) (ht : 0 ≤ t ∧ t ≤ N)
    (hE : ∀ j, 0 ≤ j → j ≤ N → me D' k j = insF (me D k) t K j ∧ mn_ D' k j = insF (mn_ D k) t x j) (h57 : ∀ r, 0 ≤ r → r < 256 → Rz 768 57 D' r = Rz 768 57 D r + if Rz 240 41 D k = r then 1 else 0) : MT D' := by
  obtain ⟨a1, a2, ⟨a3, a3p, a3t⟩, a4, a5, a6⟩ := h
  rw [hK] at a1
  have kK : k < K := by have := (a2 k hk.1 hk.2).2 hTk; omega
  have T36 : ∀ i, 0 ≤ i → i < 80 → (Rz 240 36 D' i = 1 ↔ i = K ∨ Rz 240 36 D i = 1) := fun i b c => by
    rw [h36 i b c]
    by_cases q : i = K
    · rw [if_pos q]; exact ⟨fun _ => Or.inl q, fun _ => rfl⟩
    · rw [if_neg q]; exact ⟨fun z => Or.inr z, fun z => z.resolve_left q⟩
  have par : ∀ a, a ∈ [37, 38, 39, 41] → ∀ i, 0 ≤ i → i < 80 → i ≠ K → Rz 240 a D' i = Rz 240 a D i := fun a ha i b c e => by
    by_cases q : i = k
    · subst q; exact hpk a ha
    · exact (hMS i b c e q).1 a (by simp only [List.mem_cons, List.not_mem_nil, or_false] at ha ⊢; omega)
  have nK : ∀ i, 0 ≤ i → i < 80 → Rz 240 36 D i = 1 → i ≠ K := fun i b c z e => hTK (by rw [← e]; exact z)
  have i0 := par 37 (by decide) 0 (by omega) (by omega) (by omega)
  refine ⟨by rw [h35]; omega, fun i b c => ?_, ⟨(T36 0 (by omega) (by omega)).2 (Or.inr a3), by rw [i0]; exact a3p, by rw [par 39 (by decide) 0 (by omega) (by omega) (by omega)]; exact a3t⟩, fun i b c z => ?_, fun i j b c z d e => ?_, fun r b c => ?_⟩
  · rw [h36 i b c, h35]
    obtain ⟨z1, z2⟩ := a2 i b c
    by_cases q : i = K
    · rw [if_pos q]; exact ⟨Or.inr rfl, fun _ => by omega⟩
    · rw [if_neg q]; exact ⟨z1, fun z => by have := z2 z; omega⟩
  · rcases (T36 i (by omega) c).1 z with q | q
    · subst q
      rw [m37]
      refine ⟨by omega, (T36 k hk.1 hk.2).2 (Or.inr hTk), t, ht.1, by rw [hN']; omega, ?_⟩
      rw [(hE t ht.1 ht.2).1]
      exact insF_eq
    · obtain ⟨z1, z2, j, z3, z4, z5⟩ := a4 i b c q
      have hiK := nK i (by omega) c q
      rw [par 37 (by decide) i (by omega) c hiK]
      refine ⟨z1, (T36 _ (by omega) (by omega)).2 (Or.inr z2), ?_⟩
      by_cases e : Rz 240 37 D i = k
      · rw [e] at z4 z5 ⊢
        rw [hN] at z4
        rw [hN']
        by_cases g : j < t
        · exact ⟨j, z3, by omega, by rw [(hE j z3 (by omega)).1, insF_lo g]; exact z5⟩
        · refine ⟨j + 1, by omega, by omega, ?_⟩
          rw [(hE (j + 1) (by omega) (by omega)).1, insF_hi (by omega), show j + 1 - 1 = j by omega]
          exact z5
      · have hq := hMS (Rz 240 37 D i) (by omega) (by omega) (nK _ (by omega) (by omega) z2) e
        obtain ⟨y1, y2⟩ := hq.list (hW _ (by omega) (by omega) z2)
        rw [y1]
        exact ⟨j, z3, z4, by rw [(y2 j z3 z4).1]; exact z5⟩
  · rcases (T36 i b c).1 z with q | q
    · subst q
      rw [m42, sm_0] at e
      omega
    · have hiK := nK i b c q
      have old : ∀ j, 0 ≤ j → j < sm (mc D i) (Rz 240 42 D i) → Rz 240 36 D' (me D i j) = 1 ∧ Rz 240 37 D' (me D i j) = i ∧ Rz 240 38 D' (me D i j) = mn_ D i j := fun j d e => by
        obtain ⟨y1, y2, y3⟩ := a5 i j b c q d e
        have hb := ((hW i b c q).2.2.1 j d e).2
        have hm := nK _ hb.1 hb.2 y1
        exact ⟨(T36 _ hb.1 hb.2).2 (Or.inr y1), by rw [par 37 (by decide) _ hb.1 hb.2 hm]; exact y2, by rw [par 38 (by decide) _ hb.1 hb.2 hm]; exact y3⟩
      by_cases g : i = k
      · subst g
        rw [hN'] at e
        obtain ⟨e1, e2⟩ := hE j d (by omega)
        rw [e1, e2]
        by_cases g1 : j < t
        · rw [insF_lo g1, insF_lo g1]
          exact old j d (by rw [hN]; omega)
        · by_cases g2 : j = t
          · subst g2
            rw [insF_eq, insF_eq]
            exact ⟨(T36 K (by omega) hK0).2 (Or.inl rfl), m37, m38⟩
          · rw [insF_hi (by omega), insF_hi (by omega)]
            exact old (j - 1) (by omega) (by rw [hN]; omega)
      · have hq := hMS i b c hiK g
        obtain ⟨y1, y2⟩ := hq.list (hW i b c q)
        rw [y1] at e
        rw [(y2 j d e).1, (y2 j d e).2]
        exact old j d e
  · rw [h57 r b c, a6 r b c]
    have e : (sm (fun i => if Rz 240 36 D' i = 1 ∧ Rz 240 41 D' i = r then 1 else 0) 80) = sm (uI (fun i => if Rz 240 36 D i = 1 ∧ Rz 240 41 D i = r then 1 else 0) K (if Rz 240 41 D k = r then 1 else 0)) 80 := by
      refine sm_cong (fun i y z => ?_)
      unfold uI
      by_cases q : i = K
      · rw [if_pos q]
        subst q
        have := (T36 i y z).2 (Or.inl rfl)
        by_cases q2 : Rz 240 41 D k = r
        · rw [if_pos ⟨this, by rw [m41]; exact q2⟩, if_pos q2]
        · rw [if_neg (fun w => q2 (by rw [← m41]; exact w.2)), if_neg q2]
      · rw [if_neg q, h36 i y z, if_neg q, par 41 (by decide) i y z q]
    rw [e, sm_upd (by omega) 80 80 rfl, if_neg (show ¬ (80 : Int) ≤ K by omega), if_neg (show ¬ (Rz 240 36 D K = 1 ∧ Rz 240 41 D K = r) from fun w => hTK w.1), Int.sub_zero]
