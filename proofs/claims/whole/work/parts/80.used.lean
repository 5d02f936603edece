/-! used -/
section USED
def SUf (s : Int → Int) : Int → Int := fun k => if 0 < s k then s k else 0
theorem sm_gap {f : Int → Int} {a : Int} (ha : 0 ≤ a) : ∀ (n : Nat), (∀ k, a < k → k < a + 1 + n → f k = 0) → sm f (a + 1 + n) = sm f a + f a := by
  intro n
  induction n with
  | zero => intro _; rw [show a + 1 + ((0 : Nat) : Int) = a + 1 by omega]; exact sm_s ha
  | succ n ih =>
    intro h
    rw [show a + 1 + ((n + 1 : Nat) : Int) = (a + 1 + n) + 1 by omega, sm_s (by omega), ih (fun k x y => h k x (by omega)), h (a + 1 + n) (by omega) (by omega), Int.add_zero]
theorem used_class {D : DD} {e : Int} (hT : Til (Rz 1024 3 D) e) (he : 4 ≤ e ∧ e ≤ 1024) : ∀ (f : Nat) (acc a : Int), 4 ≤ a → a ≤ e → (e - a).toNat < f → (a = e ∨ Rz 1024 3 D a ≠ 0) → acc = sm (SUf (Rz 1024 3 D)) a → pC_unitsInUse_12 e f acc a D = okR (sm (SUf (Rz 1024 3 D)) e) D := by
  intro f
  induction f with
  | zero => intro acc a h1 h2 h3; omega
  | succ f ih =>
    intro acc a h1 h2 h3 h4 h5
    rw [pC_unitsInUse_12, w32_of (z := a) (by omega), w32_of (z := e) (by omega)]
    by_cases g : a < e
    · have hs : Rz 1024 3 D a ≠ 0 := by rcases h4 with z | z; omega; exact z
      have hb := hT.1 a hs
      simp only [ltR]
      rw [if_pos g, rd_R (by omega), zmm (by omega)]
      have hz : zmax 0 (Rz 1024 3 D a) = SUf (Rz 1024 3 D) a := by
        unfold zmax SUf
        rw [w32_k0, w32_of (by omega)]
      rw [hz]
      by_cases q : 1 ≤ Rz 1024 3 D a
      · rw [if_pos q]
        refine ih _ _ (by omega) (by omega) (by omega) ?_ ?_
        · by_cases w : a + Rz 1024 3 D a = e
          · exact Or.inl w
          · exact Or.inr (hT.2.2.2.1 a (by omega) (by omega))
        · have := sm_gap (f := SUf (Rz 1024 3 D)) (a := a) (by omega) (Rz 1024 3 D a - 1).toNat (fun k x y => by
            have := hT.2.1 a k hs x (Or.inl (by omega))
            unfold SUf
            rw [this, if_neg (by omega)])
          rw [show a + 1 + ((Rz 1024 3 D a - 1).toNat : Int) = a + Rz 1024 3 D a by omega] at this
          rw [this, h5]
      · rw [if_neg q, if_pos (show Rz 1024 3 D a ≤ -1 by omega)]
        refine ih _ _ (by omega) (by omega) (by omega) ?_ ?_
        · by_cases w : a + -Rz 1024 3 D a = e
          · exact Or.inl w
          · have := hT.2.2.2.2 a (by omega) (by omega)
            rw [show a - Rz 1024 3 D a = a + -Rz 1024 3 D a by omega] at this
            exact Or.inr (by omega)
        · have := sm_gap (f := SUf (Rz 1024 3 D)) (a := a) (by omega) (-Rz 1024 3 D a - 1).toNat (fun k x y => by
            have := hT.2.1 a k hs x (Or.inr (by omega))
            unfold SUf
            rw [this, if_neg (by omega)])
          rw [show a + 1 + ((-Rz 1024 3 D a - 1).toNat : Int) = a + -Rz 1024 3 D a by omega] at this
          rw [this, h5]
    · rw [if_neg g, h5, show a = e by omega]
theorem used_ok {Dc Dm : DD} {m : Int} (h : St Dc Dm m) : Ok [] Dc Dm m (pC_unitsInUse Dc) (pM_used Dm) := by
  obtain ⟨a, b, c, d⟩ := h.1.1.1
  have hz : ∀ k, k < 4 → Rz 1024 3 Dc k = 0 := fun k x => Classical.byContradiction fun z => by have := a.1 k z; omega
  have s4 : sm (SUf (Rz 1024 3 Dc)) 4 = 0 := by
    have hf : ∀ k, k < 4 → SUf (Rz 1024 3 Dc) k = 0 := fun k x => by unfold SUf; rw [hz k x, if_neg (by omega)]
    have e : sm (SUf (Rz 1024 3 Dc)) 4 = sm (fun _ => 0) 4 := sm_cong (fun j x y => hf j y)
    rw [e]
    rfl
  have mo : ∀ (f : Nat) (acc u : Int), 0 ≤ u → u ≤ 16 * Dc 2 4 → (16 * Dc 2 4 - u).toNat < f → acc = sm (SUf (Rz 1024 3 Dc)) u → pM_used_9 f acc u (up2 Dm 32 42 0) = okR (sm (SUf (Rz 1024 3 Dc)) (16 * Dc 2 4)) (up2 Dm 32 42 0) := by
    intro f
    induction f with
    | zero => intro acc u h1 h2 h3; omega
    | succ f ih =>
      intro acc u h1 h2 h3 h4
      have hun : pM_units (up2 Dm 32 42 0) = 16 * Dc 2 4 := by unfold pM_units; rw [up2_ot (by decide), c]
      rw [pM_used_9, hun, w32_of (z := u) (by omega), w32_of (z := 16 * Dc 2 4) (by omega)]
      by_cases g : u < 16 * Dc 2 4
      · have hb := a.bd (by omega) u
        rw [if_pos g, rdA_R (by omega)]
        simp only [jnR, ltR]
        rw [rdA_R (by omega), R_up2_ot (by decide), d u h1 (by omega), w32_of (z := Rz 1024 3 Dc u) (by omega)]
        have st : sm (SUf (Rz 1024 3 Dc)) (u + 1) = acc + SUf (Rz 1024 3 Dc) u := by rw [sm_s h1, h4]
        by_cases q : 0 < Rz 1024 3 Dc u
        · rw [if_pos q]
          refine ih _ (u + 1) (by omega) (by omega) (by omega) ?_
          rw [st]; unfold SUf; rw [if_pos q]
        · rw [if_neg q]
          refine ih _ (u + 1) (by omega) (by omega) (by omega) ?_
          rw [st]; unfold SUf; rw [if_neg q]
      · rw [if_neg g, h4, show u = 16 * Dc 2 4 by omega]
  refine Ok.same (v := sm (SUf (Rz 1024 3 Dc)) (16 * Dc 2 4)) h ?_ ?_
  · unfold pM_used
    simp only [gD]
    exact mo fu 0 0 (by omega) (by omega) (fu_gt (by omega)) (sm_0 _).symm
  · unfold pC_unitsInUse pI_end
    simp only [ltR]
    rw [show Dc 2 4 * 16 = 16 * Dc 2 4 by omega]
    exact used_class a (by omega) fu 0 4 (by omega) (by omega) (fu_gt (by omega)) (Or.inr a.2.2.1) s4.symm
end USED
