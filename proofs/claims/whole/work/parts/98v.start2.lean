/-! what the constructors leave -/
theorem hi_up2 {D : DD} {b k : Nat} {z : Int} (hb : b < 32) (h : ∀ a, 32 ≤ a → ∀ k, D a k = 0) : ∀ a, 32 ≤ a → ∀ j, up2 D b k z a j = 0 := fun a ha j => by
  rw [up2_ot (by omega)]
  exact h a ha j
theorem hi_cpy2 {D : DD} {a0 a1 n : Nat} (hb : a1 < 32) (h : ∀ a, 32 ≤ a → ∀ k, D a k = 0) : ∀ a, 32 ≤ a → ∀ j, cpy2 D a0 a1 n a j = 0 := fun a ha j => by
  unfold cpy2
  rw [if_neg (by omega)]
  exact h a ha j
theorem CO_hi : ∀ a, 32 ≤ a → ∀ k, CO a k = 0 := by
  unfold CO CN CM CL CJ CI CH CG CF CE CD CC CB CA C1 C0 img
  repeat first | exact fun _ _ _ => rfl | refine hi_up2 (by decide) ?_ | refine hi_cpy2 (by decide) ?_
theorem CP_hi : ∀ a, 32 ≤ a → ∀ k, CP a k = 0 := by
  unfold CP pF_keepAsWhole pI_copyFrom_21_2
  simp only [gD]
  repeat first | exact CO_hi | refine hi_up2 (by decide) ?_ | refine hi_cpy2 (by decide) ?_
theorem CP_3 (k : Nat) : CP 3 k = if k = 4 then 6 else if k = 10 then 2 else if k = 12 then -4 else 0 := by
  have e : CP 3 k = if k = 10 then 2 else if k = 12 then -4 else if k = 4 then 6 else if k = 10 then -6 else if k = 4 then -12 else 0 := rfl
  rw [e]
  by_cases h1 : k = 4
  · subst h1; rfl
  · rw [if_neg h1]
    by_cases h2 : k = 10
    · rw [if_pos h2, if_pos h2, if_neg h1]
    · rw [if_neg h2, if_neg h2, if_neg h1, if_neg h2, if_neg h1]
theorem CP_5 (k : Nat) : CP 5 k = if k = 0 then 4 else 0 := rfl
theorem CP_6 (k : Nat) : CP 6 k = if k = 0 then 10 else 0 := rfl
theorem CP_4 : CP 4 4 = 0 ∧ CP 4 5 = -1 ∧ CP 4 6 = 0 ∧ CP 4 7 = 0 ∧ CP 4 8 = 0 ∧ CP 4 9 = -1 ∧ CP 4 10 = 1 := ⟨rfl, rfl, rfl, rfl, rfl, rfl, rfl⟩
theorem CP_2 : CP 2 4 = 1 ∧ CP 2 5 = 1 ∧ CP 7 5 = 0 ∧ CP 15 4 = 0 ∧ CP 21 4 = 1 ∧ CP 21 5 = 1 ∧ CP 20 5 = 0 ∧ CP 20 6 = 0 := ⟨rfl, rfl, rfl, rfl, rfl, rfl, rfl, rfl⟩
theorem CP_w (k : Nat) : CP 16 k = 0 ∧ CP 17 k = 0 ∧ CP 18 k = 0 ∧ CP 19 k = 0 ∧ CP 31 k = 0 := ⟨rfl, rfl, rfl, rfl, rfl⟩
theorem CP_22 {k : Nat} (h : k < 1024) : CP 22 k = CP 3 k := if_pos h
theorem CP_23 {k : Nat} (h : k < 1024) : CP 23 k = CP 4 k := if_pos h
theorem CP_24 {k : Nat} (h : k < 80) : CP 24 k = CP 5 k := if_pos h
theorem CP_25 {k : Nat} (h : k < 256) : CP 25 k = CP 6 k := if_pos h
/-- the reference's constructor -/
def M11 : DD := up2 (up2 (up2 (up2 (up2 (up2 (up2 (up2 (up2 (up2 (up2 CP 34 0 1) 33 4 6) 33 10 2) 33 12 (-4)) 35 0 1) 36 0 1) 37 0 (-1)) 39 0 (-1)) 40 0 4) 43 0 (-1)) 49 0 (-1)
theorem mi_loop {K : DD → Res} {D0 : DD} : ∀ (f : Nat) (i : Nat) (D : DD), i ≤ 256 → 256 - i < f → (∀ b, b ≠ 56 → D b = D0 b) → ∃ D', pM_ini_388 f (i : Int) D K = K D' ∧ ∀ b, b ≠ 56 → D' b = D0 b := by
  intro f
  induction f with
  | zero => intro i D h1 h2; omega
  | succ f ih =>
    intro i D h1 h2 h3
    rw [pM_ini_388]
    have e : w32 (i : Int) = i := w32_of (by omega)
    rw [e]
    by_cases g : (i : Int) < 256
    · rw [if_pos g, wrA_T ⟨by omega, by omega, by decide⟩]
      have := ih (i + 1) (Tz 768 56 D i (-1)) (by omega) (by omega) (fun b hb => (T_ot hb).trans (h3 b hb))
      rw [show ((i + 1 : Nat) : Int) = (i : Int) + 1 by omega] at this
      exact this
    · rw [if_neg g]
      exact ⟨D, rfl, h3⟩
theorem M11_hi : ∀ a, 58 ≤ a → ∀ k, M11 a k = 0 := fun a h k => by
  unfold M11
  rw [up2_ot (by omega), up2_ot (by omega), up2_ot (by omega), up2_ot (by omega), up2_ot (by omega), up2_ot (by omega), up2_ot (by omega), up2_ot (by omega), up2_ot (by omega), up2_ot (by omega), up2_ot (by omega)]
  exact CP_hi a (by omega) k
theorem M11_lo : ∀ a, a < 33 → M11 a = CP a := fun a h => by
  unfold M11
  rw [up2_ot (by omega), up2_ot (by omega), up2_ot (by omega), up2_ot (by omega), up2_ot (by omega), up2_ot (by omega), up2_ot (by omega), up2_ot (by omega), up2_ot (by omega), up2_ot (by omega), up2_ot (by omega)]
/-- what the reference's constructor leaves: D2 -/
def Mi (D2 : DD) : Prop := (∀ b, b < 33 → D2 b = CP b) ∧ (∀ b, 57 < b → ∀ k, D2 b k = 0) ∧
  ∃ D14 : DD, (∀ a, 33 ≤ a → a ≤ 55 → D14 a = M11 a) ∧ D14 56 0 = 10 ∧ (∀ k, D14 57 k = if k = 0 then 1 else 0) ∧ ∀ a k, 33 ≤ a → a ≤ 57 → D2 a k = if 2 * lenA a ≤ k ∧ k < 2 * lenA a + lenA a then D14 a (k - 2 * lenA a + 0 * lenA a) else D14 a k
theorem m_36 (k : Nat) : M11 36 k = if k = 0 then 1 else 0 := by
  show (if k = 0 then 1 else CP 36 k) = _
  rw [CP_hi 36 (by decide)]
theorem e_mini : ∃ D2, pM_ini CP = okR 0 D2 ∧ Mi D2 := by
  obtain ⟨D12, h1, h2⟩ := mi_loop (K := fun D12 => gD (up2 D12 56 0 10) fun D13 => gD (up2 D13 57 0 1) fun D14 => bnd (pM_copies 0 2 D14) fun _ D15 => okR 0 D15) (D0 := M11) fu 0 M11 (by decide) (fu_gt (by decide)) (fun _ _ => rfl)
  have h1 : pM_ini CP = _ := h1
  have e57 : ∀ k, up2 (up2 D12 56 0 10) 57 0 1 57 k = if k = 0 then 1 else 0 := fun k => by
    rw [up2_at]
    show (if k = 0 then (1 : Int) else up2 D12 56 0 10 57 k) = _
    rw [up2_ot (by decide), h2 57 (by decide)]
    show (if k = 0 then (1 : Int) else CP 57 k) = _
    rw [CP_hi 57 (by decide)]
  have elo : ∀ b, b ≠ 56 → b ≠ 57 → up2 (up2 D12 56 0 10) 57 0 1 b = M11 b := fun b q1 q2 => by rw [up2_ot q2, up2_ot q1, h2 b q1]
  obtain ⟨D2, r1, r2, r3⟩ := copies_m (p := 0) (q := 2) (D := up2 (up2 D12 56 0 10) 57 0 1) (by decide) (by decide) (by decide) (fun k hk => by
    rw [elo 36 (by decide) (by decide), m_36]
    split
    · exact Or.inr rfl
    · exact Or.inl rfl)
  refine ⟨D2, ?_, fun b hb => ?_, fun b hb k => ?_, up2 (up2 D12 56 0 10) 57 0 1, fun a q1 q2 => elo a (by omega) (by omega), ?_, e57, r3⟩
  · rw [h1]
    show bnd (pM_copies ((0 : Nat) : Int) ((2 : Nat) : Int) (up2 (up2 D12 56 0 10) 57 0 1)) (fun _ D15 => okR 0 D15) = _
    rw [r1]
    rfl
  · rw [r2 b (Or.inl hb), elo b (by omega) (by omega), M11_lo b hb]
  · rw [r2 b (Or.inr hb), elo b (by omega) (by omega), M11_hi b (by omega)]
  · rw [up2_ot (by decide), up2_eq]
