/-! a change is told upwards -/
/-- the way up, in class and reference -/
def Pth (T : Int → Prop) (Dc Dm : DD) : Prop := ∀ k, 0 ≤ k → k < 80 → T k → Rz 80 5 Dc k = Rz 240 40 Dm k ∧ (4 ≤ Rz 240 40 Dm k ∧ Rz 240 40 Dm k + 6 ≤ 1024) ∧ Rz 1024 4 Dc (Rz 240 40 Dm k + 1) = Rz 240 37 Dm k ∧ (Rz 240 37 Dm k = -1 ∨ (0 ≤ Rz 240 37 Dm k ∧ Rz 240 37 Dm k < k ∧ T (Rz 240 37 Dm k)))
theorem Pth.cong {T : Int → Prop} {Dc Dm Dc' Dm' : DD} (h : Pth T Dc Dm) (h4 : Dc' 4 = Dc 4) (h5 : Dc' 5 = Dc 5) (h37 : Dm' 37 = Dm 37) (h40 : Dm' 40 = Dm 40) : Pth T Dc' Dm' := fun k a b c => by
  rw [R_cg h5, R_cg h40, R_cg h4, R_cg h37]
  exact h k a b c
theorem tell_not {Dc : DD} {k x : Int} (hk : 0 ≤ k ∧ k < 80) (h : Rz 80 17 Dc k = 0) : pW_tell k x 1 Dc = Dc := by
  unfold pW_tell
  simp only [jnR, gD]
  rw [rd_R (a := 17) (by omega), h, w32_k0, w32_k1, if_pos rfl, if_pos rfl, if_neg (show ¬ (1 : Int) = 0 by decide)]
  split <;> rfl
theorem up_loop {T : Int → Prop} {x : Int} (hx : 1 ≤ x ∧ x ≤ 7) : ∀ (r f g : Nat) (a l m : Int) (Dc Dm : DD), Pth T Dc Dm → Wt Dc Dm m → m + 80 ≤ 900000 + l → (a = -1 ∨ (0 ≤ a ∧ a ≤ 78 - l ∧ T a)) → 0 ≤ l → l ≤ 79 → (a + 1).toNat ≤ r → r < f → r < g →
    ∃ Dc' Dm', pH_tellUpwards_31 x f a l Dc = okR 0 Dc' ∧ pM_changes_13 x g a Dm = okR 0 Dm' ∧ Wt Dc' Dm' (m + r) ∧ Nc Dc Dc' ∧ Nm Dm Dm' := by
  intro r
  induction r with
  | zero =>
    intro f g a l m Dc Dm hP hW hm ha hl hl2 hr hf hg
    match f, g, hf, hg with
    | f + 1, g + 1, _, _ =>
      have : a = -1 := by omega
      subst this
      refine ⟨Dc, Dm, ?_, ?_, hW.mono (by omega), Nc.rf _, Nm.rf _⟩
      · rw [pH_tellUpwards_31, w32_of (z := l) (by omega), if_pos (by omega), w32_m1, if_pos rfl]
      · rw [pM_changes_13, w32_m1, if_pos rfl]
  | succ r ih =>
    intro f g a l m Dc Dm hP hW hm ha hl hl2 hr hf hg
    match f, g, hf, hg with
    | f + 1, g + 1, hf, hg =>
      rcases ha with ha | ⟨a1, a2, a3⟩
      · subst ha
        refine ⟨Dc, Dm, ?_, ?_, hW.mono (by omega), Nc.rf _, Nm.rf _⟩
        · rw [pH_tellUpwards_31, w32_of (z := l) (by omega), if_pos (by omega), w32_m1, if_pos rfl]
        · rw [pM_changes_13, w32_m1, if_pos rfl]
      · have hWa := (hW.1 a a1 (by omega)).2.1
        -- the step, told or not
        obtain ⟨Dc1, Dm1, k1, k2, k3, k4, k5⟩ : ∃ Dc1 Dm1, pW_tell a x 1 Dc = Dc1 ∧ (∀ K : DD → Res, (if w32 (Rz 80 60 Dm a) = 0 then K Dm else bnd (pM_tells a x Dm) fun _ D2 => K D2) = K Dm1) ∧ Wt Dc1 Dm1 (m + 1) ∧ Nc Dc Dc1 ∧ Nm Dm Dm1 := by
          rcases hWa.2 with z | z
          · refine ⟨Dc, Dm, tell_not ⟨a1, by omega⟩ z, fun K => ?_, hW.mono (by omega), Nc.rf _, Nm.rf _⟩
            rw [hWa.1, z, w32_k0, if_pos rfl]
          · obtain ⟨Dc1, Dm1, k1, k2, k3, k4, k5⟩ := tell_both (x := x) hW (by omega) ⟨a1, by omega⟩ hx
            refine ⟨Dc1, Dm1, k1 1 (Or.inr ⟨rfl, by rw [hWa.1, z]⟩), fun K => ?_, k3, k4, k5⟩
            rw [hWa.1, z, w32_k1, if_neg (by decide), k2, bnd_ok]
        have hP1 := hP.cong (k4.1 4 (by decide)) (k4.1 5 (by decide)) (k5.1 37 (by decide)) (k5.1 40 (by decide))
        obtain ⟨p1, p2, p3, p4⟩ := hP1 a a1 (by omega) a3
        obtain ⟨Dc', Dm', g1, g2, g3, g4, g5⟩ := ih f g (Rz 240 37 Dm1 a) (l + 1) (m + 1) Dc1 Dm1 hP1 k3 (by omega) (by
          rcases p4 with z | ⟨z1, z2, z3⟩
          · exact Or.inl z
          · exact Or.inr ⟨z1, by omega, z3⟩) (by omega) (by omega) (by omega) (by omega) (by omega)
        refine ⟨Dc', Dm', ?_, ?_, ?_, k4.trans g4, k5.trans g5⟩
        · rw [pH_tellUpwards_31, w32_of (z := l) (by omega), if_pos (by omega), w32_of (z := a) (by omega), if_neg (by omega)]
          simp only [gD, ltR, pI_unitAt, pI_placeOfKey]
          rw [k1, rd_R (i := a) (by omega), p1, rd_R (by omega), p3]
          exact g1
        · rw [pM_changes_13, w32_of (z := a) (by omega), if_neg (by omega), rdA_R (by omega)]
          simp only [jnR]
          refine (k2 (fun D => rdA 240 37 a D fun v2 => pM_changes_13 x g v2 D)).trans ?_
          rw [rdA_R (by omega)]
          exact g2
        · rw [show m + ((r + 1 : Nat) : Int) = m + 1 + r by omega]
          exact g3
theorem changes_both {T : Int → Prop} {x k m : Int} {Dc Dm : DD} (hx : 1 ≤ x ∧ x ≤ 7) (hk : 0 ≤ k ∧ k < 80) (hT : T k) (hP : Pth T Dc Dm) (hW : Wt Dc Dm m) (hm : m ≤ 800000) : ∃ Dc' Dm', pH_tellUpwards k x Dc = okR 0 Dc' ∧ pM_changes k x Dm = okR 0 Dm' ∧ Wt Dc' Dm' (m + 80) ∧ Nc Dc Dc' ∧ Nm Dm Dm' := by
  obtain ⟨Dc1, Dm1, k1, k2, k3, k4, k5⟩ := tell_both (x := x) hW (by omega) hk hx
  have hP1 := hP.cong (k4.1 4 (by decide)) (k4.1 5 (by decide)) (k5.1 37 (by decide)) (k5.1 40 (by decide))
  obtain ⟨p1, p2, p3, p4⟩ := hP1 k hk.1 hk.2 hT
  obtain ⟨Dc', Dm', g1, g2, g3, g4, g5⟩ := up_loop hx 79 fu fu (Rz 240 37 Dm1 k) 0 (m + 1) Dc1 Dm1 hP1 k3 (by omega) (by
    rcases p4 with z | ⟨z1, z2, z3⟩
    · exact Or.inl z
    · exact Or.inr ⟨z1, by omega, z3⟩) (by omega) (by omega) (by omega) (fu_gt (by omega)) (fu_gt (by omega))
  refine ⟨Dc', Dm', ?_, ?_, ?_, k4.trans g4, k5.trans g5⟩
  · unfold pH_tellUpwards
    simp only [gD, ltR, pI_unitAt, pI_placeOfKey]
    rw [k1 0 (Or.inl rfl), rd_R (i := k) (by omega), p1, rd_R (by omega), p3]
    exact g1
  · unfold pM_changes
    rw [k2, bnd_ok, rdA_R (by omega)]
    exact g2
  · rw [show m + 80 = m + 1 + ((79 : Nat) : Int) by omega]
    exact g3
