/-! the tree of the reference: other rights -/
theorem MT.rights {D D' : DD} {K a b : Int} (h : MT D) (hK : 0 ≤ K ∧ K < 80) (hT : th D K) (ha : Rz 240 41 D K = a) (hm : ∀ c, c ∈ [35, 36, 37, 38, 39, 42, 45, 46, 47] → D' c = D c) (h41 : ∀ i, 0 ≤ i → i < 80 → Rz 240 41 D' i = if i = K then b else Rz 240 41 D i)
    (h57 : ∀ r, 0 ≤ r → r < 256 → Rz 768 57 D' r = Rz 768 57 D r + (if b = r then 1 else 0) - (if a = r then 1 else 0)) : MT D' := by
  have emc : mc D' = mc D := by funext k i; exact R_cg (hm 45 (by decide)) _
  have eme : me D' = me D := by funext k i; exact R_cg (hm 46 (by decide)) _
  have emn : mn_ D' = mn_ D := by funext k i; exact R_cg (hm 47 (by decide)) _
  have e36 : Rz 240 36 D' = Rz 240 36 D := Rz_fn (hm 36 (by decide))
  have e37 : Rz 240 37 D' = Rz 240 37 D := Rz_fn (hm 37 (by decide))
  have e38 : Rz 240 38 D' = Rz 240 38 D := Rz_fn (hm 38 (by decide))
  have e39 : Rz 240 39 D' = Rz 240 39 D := Rz_fn (hm 39 (by decide))
  have e42 : Rz 240 42 D' = Rz 240 42 D := Rz_fn (hm 42 (by decide))
  obtain ⟨a1, a2, a3, a4, a5, a6⟩ := h
  unfold MT
  rw [hm 35 (by decide), emc, eme, emn, e36, e37, e38, e39, e42]
  refine ⟨a1, a2, a3, a4, a5, fun r x y => ?_⟩
  rw [h57 r x y, a6 r x y]
  have e : (sm (fun i => if Rz 240 36 D i = 1 ∧ Rz 240 41 D' i = r then 1 else 0) 80) = sm (uI (fun i => if Rz 240 36 D i = 1 ∧ Rz 240 41 D i = r then 1 else 0) K (if b = r then 1 else 0)) 80 := by
    refine sm_cong (fun i y z => ?_)
    unfold uI
    rw [h41 i y z]
    by_cases q : i = K
    · rw [if_pos q, if_pos q, q]
      by_cases q2 : b = r
      · rw [if_pos ⟨hT, q2⟩, if_pos q2]
      · rw [if_neg (fun w => q2 w.2), if_neg q2]
    · rw [if_neg q, if_neg q]
  have e2 : (if Rz 240 36 D K = 1 ∧ Rz 240 41 D K = r then (1 : Int) else 0) = if a = r then 1 else 0 := by
    rw [ha]
    by_cases q : a = r
    · rw [if_pos ⟨hT, q⟩, if_pos q]
    · rw [if_neg (fun w => q w.2), if_neg q]
  rw [e, sm_upd hK.1 80 80 rfl, if_neg (show ¬ (80 : Int) ≤ K by omega), e2]
  omega
