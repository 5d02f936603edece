/-! takeNotice -/
section NOTICE
theorem shift_loop {x q : Int} {ka nu : Int → Int} (hq : 0 ≤ q ∧ q ≤ 79) : ∀ (f : Nat) (a : Int) (D : DD), 0 ≤ a → a ≤ q → (q - a).toNat < f → D 32 29 = q → (∀ i, 0 ≤ i → i < a → Rz 80 62 D i = ka (i + 1) ∧ Rz 80 63 D i = nu (i + 1)) → (∀ i, a ≤ i → i ≤ q → Rz 80 62 D i = ka i ∧ Rz 80 63 D i = nu i) →
    ∃ D', pM_takeNotice_43 x f a D = okR x D' ∧ (∀ b, b ∉ [62, 63] → D' b = D b) ∧ ∀ i, 0 ≤ i → i < q → Rz 80 62 D' i = ka (i + 1) ∧ Rz 80 63 D' i = nu (i + 1) := by
  intro f
  induction f with
  | zero => intro a D h1 h2 h3; omega
  | succ f ih =>
    intro a D h1 h2 h3 h4 h5 h6
    rw [pM_takeNotice_43, h4, w32_of (z := a) (by omega), w32_of (z := q) (by omega)]
    by_cases g : a < q
    · obtain ⟨c1, c2⟩ := h6 (a + 1) (by omega) (by omega)
      have base : ∀ i, Rz 80 62 (Tz 80 63 (Tz 80 62 D a (ka (a + 1))) a (nu (a + 1))) i = (if i = a then ka (a + 1) else Rz 80 62 D i) ∧ Rz 80 63 (Tz 80 63 (Tz 80 62 D a (ka (a + 1))) a (nu (a + 1))) i = (if i = a then nu (a + 1) else Rz 80 63 D i) := fun i => by
        rw [R_T_ot (by decide), R_T, R_T, R_T_ot (by decide)]
        by_cases z : i = a
        · rw [if_pos ⟨by omega, z⟩, if_pos z, if_pos ⟨by omega, z⟩, if_pos z]
          exact ⟨rfl, rfl⟩
        · rw [if_neg (fun y => z y.2), if_neg z, if_neg (fun y => z y.2), if_neg z]
          exact ⟨rfl, rfl⟩
      obtain ⟨D', k1, k2, k3⟩ := ih (a + 1) (Tz 80 63 (Tz 80 62 D a (ka (a + 1))) a (nu (a + 1))) (by omega) (by omega) (by omega) (by rw [T_ot (by decide), T_ot (by decide)]; exact h4) (fun i y z => by
        obtain ⟨e1, e2⟩ := base i
        rw [e1, e2]
        by_cases w : i = a
        · rw [if_pos w, if_pos w, w]; exact ⟨rfl, rfl⟩
        · rw [if_neg w, if_neg w]; exact h5 i y (by omega)) (fun i y z => by
        obtain ⟨e1, e2⟩ := base i
        rw [e1, e2, if_neg (by omega), if_neg (by omega)]
        exact h6 i (by omega) z)
      refine ⟨D', ?_, fun b hb => by rw [k2 b hb, T_ot (nin hb (by decide)), T_ot (nin hb (by decide))], k3⟩
      rw [if_pos g, rdA_R (by omega), c1, wrA_T (by omega), rdA_R (by omega), R_T_ot (by decide), c2, wrA_T (by omega)]
      exact k1
    · exact ⟨D, by rw [if_neg g], fun _ _ => rfl, fun i y z => h5 i y (by omega)⟩
/-- who was told first -/
theorem first_none {D : DD} (h : ∀ k, 0 ≤ k → k < 80 → Rz 80 19 D k = 0) : ∀ (f : Nat) (a : Int), 0 ≤ a → a ≤ 80 → (80 - a).toNat < f → pW_keyToldFirst_4 f (-1) a D = okR (-1) D := by
  intro f
  induction f with
  | zero => intro a h1 h2 h3; omega
  | succ f ih =>
    intro a h1 h2 h3
    rw [pW_keyToldFirst_4, w32_of (z := a) (by omega)]
    by_cases g : a < 80
    · simp only [ltR, jnR]
      rw [if_pos g, rd_R (by omega), h a h1 g, w32_k0, if_pos rfl]
      exact ih (a + 1) (by omega) (by omega) (by omega)
    · rw [if_neg g]
theorem first_loop {D : DD} {K : Int} (hK : 0 ≤ K ∧ K < 80) (hb : ∀ k, 0 ≤ k → k < 80 → 0 ≤ Rz 80 19 D k ∧ Rz 80 19 D k ≤ 1000000) (h1 : Rz 80 19 D K ≠ 0) (h2 : ∀ k, 0 ≤ k → k < 80 → Rz 80 19 D k ≠ 0 → k ≠ K → Rz 80 19 D K < Rz 80 19 D k) : ∀ (f : Nat) (c a : Int), 0 ≤ a → a ≤ 80 → (80 - a).toNat < f → (K < a → c = K) → (a ≤ K → c = -1 ∨ ((0 ≤ c ∧ c < a) ∧ Rz 80 19 D c ≠ 0)) → pW_keyToldFirst_4 f c a D = okR K D := by
  intro f
  induction f with
  | zero => intro c a g1 g2 g3; omega
  | succ f ih =>
    intro c a g1 g2 g3 g4 g5
    rw [pW_keyToldFirst_4, w32_of (z := a) (by omega)]
    by_cases g : a < 80
    · have b1 := hb a g1 g
      have hc : -1 ≤ c ∧ c < 80 := by
        by_cases z : K < a
        · have := g4 z; omega
        · rcases g5 (by omega) with w | w <;> omega
      simp only [ltR, jnR]
      rw [if_pos g, rd_R (i := a) (by omega), rd_R (i := c) (by omega), w32_of (z := Rz 80 19 D a) (by omega), w32_of (z := c) (by omega)]
      by_cases q : Rz 80 19 D a = 0
      · have ne : a ≠ K := fun z => h1 (by rw [← z]; exact q)
        rw [if_pos q]
        exact ih c (a + 1) (by omega) (by omega) (by omega) (fun z => g4 (by omega)) (fun z => by
          rcases g5 (by omega) with w | ⟨w1, w2⟩
          · exact Or.inl w
          · exact Or.inr ⟨by omega, w2⟩)
      · rw [if_neg q]
        by_cases q2 : c = -1
        · rw [if_pos q2]
          have : a ≤ K := by
            by_cases z : K < a
            · have := g4 z; omega
            · omega
          exact ih a (a + 1) (by omega) (by omega) (by omega) (fun z => by omega) (fun z => Or.inr ⟨by omega, q⟩)
        · have b2 := hb c (by omega) (by omega)
          rw [if_neg q2, w32_of (z := Rz 80 19 D c) (by omega)]
          by_cases q3 : Rz 80 19 D a < Rz 80 19 D c
          · rw [if_pos q3]
            have : a ≤ K := by
              by_cases z : K < a
              · have e := g4 z
                have := h2 a g1 g q (by omega)
                rw [e] at q3
                omega
              · omega
            exact ih a (a + 1) (by omega) (by omega) (by omega) (fun z => by omega) (fun z => Or.inr ⟨by omega, q⟩)
          · rw [if_neg q3]
            refine ih c (a + 1) (by omega) (by omega) (by omega) (fun z => ?_) (fun z => ?_)
            · by_cases w : K < a
              · exact g4 w
              · have e : a = K := by omega
                rcases g5 (by omega) with y | ⟨y1, y2⟩
                · exact absurd y q2
                · have := h2 c (by omega) (by omega) y2 (by omega)
                  rw [e] at q3
                  omega
            · rcases g5 (by omega) with w | ⟨w1, w2⟩
              · exact Or.inl w
              · exact Or.inr ⟨by omega, w2⟩
    · rw [if_neg g, g4 (by omega)]
end NOTICE
