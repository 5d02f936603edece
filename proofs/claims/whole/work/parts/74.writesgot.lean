/-! what was got is written, in the reference -/
theorem writesGot_loop {c : Int} {g w : Int → Int} (hc : 0 ≤ c ∧ c ≤ 6) : ∀ (f : Nat) (a : Int) (D : DD), D 32 37 = c → (∀ i, 0 ≤ i → i < c → Rz 8 66 D i = g i ∧ Rz 3072 33 D (g i) = w i ∧ 1 ≤ w i ∧ 0 ≤ g i ∧ g i + w i ≤ 1024) → 0 ≤ a → a ≤ c → (c - a).toNat < f →
    ∃ D', pM_writesGot_2 f a D = okR 0 D' ∧ Mm D D' (fun t => ∃ i, a ≤ i ∧ i < c ∧ sec (g i) (w i) t) := by
  intro f
  induction f with
  | zero => intro a D h1 h2 h3 h4 h5; omega
  | succ f ih =>
    intro a D h1 h2 h3 h4 h5
    rw [pM_writesGot_2, h1, w32_of (z := a) (by omega), w32_of (z := c) (by omega)]
    by_cases q : a < c
    · obtain ⟨a1, a2, a3, a4, a5⟩ := h2 a h3 q
      obtain ⟨D1, k1, k2⟩ := mark_model a2 a3 a4 a5
      obtain ⟨D', g1, g2⟩ := ih (a + 1) D1 (by rw [k2.1 32 (by decide)]; exact h1) (fun i b1 b2 => by rw [R_cg (k2.1 66 (by decide)), R_cg (k2.1 33 (by decide))]; exact h2 i b1 b2) (by omega) (by omega) (by omega)
      refine ⟨D', ?_, (k2.trans g2).iff (fun t _ _ => ?_)⟩
      · rw [if_pos q, rdA_R (by omega), a1, k1, bnd_ok]
        exact g1
      · constructor
        · rintro (z | ⟨i, z1, z2, z3⟩)
          · exact ⟨a, Int.le_refl _, q, z⟩
          · exact ⟨i, by omega, z2, z3⟩
        · rintro ⟨i, z1, z2, z3⟩
          by_cases z : i = a
          · subst z; exact Or.inl z3
          · exact Or.inr ⟨i, by omega, z2, z3⟩
    · refine ⟨D, by rw [if_neg q], (Mm.none D).iff (fun t _ _ => ?_)⟩
      constructor
      · exact False.elim
      · rintro ⟨i, z1, z2, -⟩
        omega
theorem writesGot_m {D : DD} {c : Int} {g w : Int → Int} (hc : 0 ≤ c ∧ c ≤ 6) (h1 : D 32 37 = c) (h2 : ∀ i, 0 ≤ i → i < c → Rz 8 66 D i = g i ∧ Rz 3072 33 D (g i) = w i ∧ 1 ≤ w i ∧ 0 ≤ g i ∧ g i + w i ≤ 1024) : ∃ D', pM_writesGot D = okR 0 D' ∧ Mm D D' (fun t => ∃ i, 0 ≤ i ∧ i < c ∧ sec (g i) (w i) t) := by
  unfold pM_writesGot
  exact writesGot_loop hc fu 0 D h1 h2 (by omega) (by omega) (fu_gt (by omega))
/-- nothing wanted: got -/
theorem gets0_m {D : DD} (h : D 32 37 = 0) : ∃ D', pM_gets D = okR 1 D' ∧ ∀ b, b ≠ 67 → D' b = D b := by
  obtain ⟨D', k1, k2, -, -⟩ := kept_loop fu 0 D (by omega) (by omega) (fu_gt (by omega))
  refine ⟨D', ?_, k2⟩
  unfold pM_gets
  simp only [ltR]
  rw [k1]
  obtain ⟨f, hf⟩ : ∃ f, fu = f + 1 := ⟨fu - 1, by have := fu_gt (x := 0) (by decide); omega⟩
  rw [hf, pM_gets_38, k2 32 (by decide), h, w32_k0, if_neg (by decide), w32_k1, if_neg (by decide), okZ_ok (Or.inr rfl)]
