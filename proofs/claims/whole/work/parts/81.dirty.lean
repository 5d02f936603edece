/-! dirty -/
section DIRTY
theorem bit_0 {t : Int} : bit 0 t = false := by
  unfold bit
  rw [show (Int64.ofInt 0).toBitVec = 0#64 by rfl]
  exact BitVec.getLsbD_zero
theorem w64_bits {x y : Int} (h : ∀ t, 0 ≤ t → t < 64 → (bit x t = true ↔ bit y t = true)) : w64 x = w64 y := by
  have e : Int64.ofInt x = Int64.ofInt y := by
    rw [← Int64.toBitVec_inj]
    refine BitVec.eq_of_getLsbD_eq (fun i hi => ?_)
    have := h (i : Int) (by omega) (by omega)
    unfold bit at this
    rw [Int.toNat_natCast] at this
    exact Bool.eq_iff_iff.mpr this
  have hx := inJ_toInt (w64_in x)
  have hy := inJ_toInt (w64_in y)
  rw [ofI_w64] at hx hy
  rw [← hx, ← hy, e]
theorem dirty_loop {D : DD} : ∀ (f : Nat) (acc a : Int), 0 ≤ a → a ≤ 64 → (64 - a).toNat < f → (∀ t, 0 ≤ t → t < 64 → (bit acc t = true ↔ t < a ∧ w32 (Rz 64 58 D t) ≠ 0)) →
    ∃ v, pM_dirty_9 f acc a D = okR v D ∧ ∀ t, 0 ≤ t → t < 64 → (bit v t = true ↔ w32 (Rz 64 58 D t) ≠ 0) := by
  intro f
  induction f with
  | zero => intro acc a h1 h2 h3; omega
  | succ f ih =>
    intro acc a h1 h2 h3 h4
    rw [pM_dirty_9, w32_of (z := a) (by omega)]
    by_cases g : a < 64
    · rw [if_pos g, rdA_R (by omega)]
      simp only [jnR, ltR]
      by_cases q : w32 (Rz 64 58 D a) = 0
      · rw [if_pos q]
        refine ih _ (a + 1) (by omega) (by omega) (by omega) (fun t x y => ?_)
        rw [bit_lor, bit_0, Bool.or_false, h4 t x y]
        constructor
        · rintro ⟨z1, z2⟩; exact ⟨by omega, z2⟩
        · rintro ⟨z1, z2⟩
          have : t ≠ a := fun z => z2 (by rw [z]; exact q)
          exact ⟨by omega, z2⟩
      · rw [if_neg q]
        refine ih _ (a + 1) (by omega) (by omega) (by omega) (fun t x y => ?_)
        rw [bit_lor, bit_lshl ⟨h1, g⟩ ⟨x, y⟩, Bool.or_eq_true, decide_eq_true_eq, h4 t x y]
        constructor
        · rintro (⟨z1, z2⟩ | z)
          · exact ⟨by omega, z2⟩
          · exact ⟨by omega, by rw [z]; exact q⟩
        · rintro ⟨z1, z2⟩
          by_cases z : t = a
          · exact Or.inr z
          · exact Or.inl ⟨by omega, z2⟩
    · rw [if_neg g]
      refine ⟨acc, rfl, fun t x y => ?_⟩
      rw [h4 t x y]
      exact ⟨fun z => z.2, fun z => ⟨by omega, z⟩⟩
/-- the answers are the same 64 bits -/
theorem dirty_ok {Dc Dm : DD} {m : Int} (h : St Dc Dm m) : ∃ v, pM_dirty Dm = okR v (up2 Dm 32 42 0) ∧ w64 (pH_dirty Dc) = w64 v := by
  obtain ⟨v, k1, k2⟩ := dirty_loop (D := up2 Dm 32 42 0) fu 0 0 (by omega) (by omega) (fu_gt (by omega)) (fun t x y => by
    rw [bit_0]
    exact ⟨fun z => Bool.noConfusion z, fun z => by omega⟩)
  refine ⟨v, ?_, ?_⟩
  · unfold pM_dirty
    simp only [gD, ltR]
    exact k1
  · unfold pH_dirty
    refine w64_bits (fun t x y => ?_)
    rw [k2 t x y, R_up2_ot (by decide)]
    exact h.2.1 t x y
end DIRTY
