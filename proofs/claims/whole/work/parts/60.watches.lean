/-! watches and notices -/
def tmF (D : DD) : Int → Int := fun k => if Rz 80 19 D k = 0 then 0 else 1
def Wt (Dc Dm : DD) (m : Int) : Prop :=
  (∀ k, 0 ≤ k → k < 80 → (Rz 80 59 Dm k = Rz 80 16 Dc k ∧ 0 ≤ Rz 80 16 Dc k ∧ Rz 80 16 Dc k ≤ 7) ∧ (Rz 80 60 Dm k = Rz 80 17 Dc k ∧ (Rz 80 17 Dc k = 0 ∨ Rz 80 17 Dc k = 1)) ∧ ((Rz 80 61 Dm k = 0 ∧ Rz 80 18 Dc k = 0 ∧ Rz 80 19 Dc k = 0) ∨ (Rz 80 61 Dm k = 1 ∧ 1 ≤ Rz 80 18 Dc k ∧ Rz 80 18 Dc k ≤ 7)) ∧ (0 ≤ Rz 80 19 Dc k ∧ Rz 80 19 Dc k ≤ Dc 15 4)) ∧
  (0 ≤ Dc 15 4 ∧ Dc 15 4 ≤ m) ∧ (0 ≤ Dm 32 29 ∧ Dm 32 29 = sm (tmF Dc) 80) ∧
  (∀ i, 0 ≤ i → i < Dm 32 29 → (0 ≤ Rz 80 62 Dm i ∧ Rz 80 62 Dm i < 80) ∧ Rz 80 63 Dm i = Rz 80 18 Dc (Rz 80 62 Dm i) ∧ 1 ≤ Rz 80 19 Dc (Rz 80 62 Dm i)) ∧
  (∀ i j, 0 ≤ i → i < j → j < Dm 32 29 → Rz 80 19 Dc (Rz 80 62 Dm i) < Rz 80 19 Dc (Rz 80 62 Dm j)) ∧
  (∀ k, 0 ≤ k → k < 80 → Rz 80 19 Dc k ≠ 0 → ∃ i, 0 ≤ i ∧ i < Dm 32 29 ∧ Rz 80 62 Dm i = k)
/-- what notices change -/
def Nc (D D' : DD) : Prop := (∀ b, b ∉ [15, 18, 19] → D' b = D b) ∧ ∀ j, j ≠ 4 → D' 15 j = D 15 j
def Nm (D D' : DD) : Prop := (∀ b, b ∉ [32, 61, 62, 63] → D' b = D b) ∧ ∀ j, j ≠ 29 → D' 32 j = D 32 j
theorem Nc.rf (D : DD) : Nc D D := ⟨fun _ _ => rfl, fun _ _ => rfl⟩
theorem Nm.rf (D : DD) : Nm D D := ⟨fun _ _ => rfl, fun _ _ => rfl⟩
theorem Nc.trans {D D1 D2 : DD} (h : Nc D D1) (g : Nc D1 D2) : Nc D D2 := ⟨fun b hb => (g.1 b hb).trans (h.1 b hb), fun k hk => (g.2 k hk).trans (h.2 k hk)⟩
theorem Nm.trans {D D1 D2 : DD} (h : Nm D D1) (g : Nm D1 D2) : Nm D D2 := ⟨fun b hb => (g.1 b hb).trans (h.1 b hb), fun k hk => (g.2 k hk).trans (h.2 k hk)⟩
theorem Wt.mono {Dc Dm : DD} {m m' : Int} (h : Wt Dc Dm m) (hm : m ≤ m') : Wt Dc Dm m' := ⟨h.1, ⟨h.2.1.1, by have := h.2.1.2; omega⟩, h.2.2⟩
/-- what watches see is a part of the state -/
theorem Wt.cong {Dc Dm Dc' Dm' : DD} {m : Int} (h : Wt Dc Dm m) (h16 : Dc' 16 = Dc 16) (h17 : Dc' 17 = Dc 17) (h18 : Dc' 18 = Dc 18) (h19 : Dc' 19 = Dc 19) (h15 : Dc' 15 4 = Dc 15 4) (h59 : Dm' 59 = Dm 59) (h60 : Dm' 60 = Dm 60) (h61 : Dm' 61 = Dm 61) (h62 : Dm' 62 = Dm 62) (h63 : Dm' 63 = Dm 63) (h32 : Dm' 32 29 = Dm 32 29) : Wt Dc' Dm' m := by
  unfold Wt tmF Rz at h ⊢
  rw [h16, h17, h18, h19, h15, h59, h60, h61, h62, h63, h32]
  exact h
section TELL
variable {Dc Dm : DD} {m k x : Int}
theorem tell_both (h : Wt Dc Dm m) (hm : m ≤ 1000000) (hk : 0 ≤ k ∧ k < 80) (hx : 1 ≤ x ∧ x ≤ 7) : ∃ Dc' Dm', (∀ b, b = 0 ∨ (b = 1 ∧ Rz 80 60 Dm k = 1) → pW_tell k x b Dc = Dc') ∧ pM_tells k x Dm = okR 0 Dm' ∧ Wt Dc' Dm' (m + 1) ∧ Nc Dc Dc' ∧ Nm Dm Dm' := by
  obtain ⟨h1, h2, h3, h4, h5, h6⟩ := id h
  obtain ⟨⟨a1, a2, a3⟩, ⟨b1, b2⟩, c, d1, d2⟩ := h1 k hk.1 hk.2
  have wc : ∀ b, b = 0 ∨ (b = 1 ∧ Rz 80 60 Dm k = 1) → pW_tell k x b Dc = if w32 (iandZ (Rz 80 16 Dc k) x) = 0 then Dc else if Rz 80 18 Dc k = 0 then Tz 80 19 (Tz 80 18 (up2 Dc 15 4 (Dc 15 4 + 1)) k x) k (Dc 15 4 + 1) else Dc := fun b hb => by
    unfold pW_tell
    simp only [jnR, gD]
    rw [rd_R (a := 16) (by omega), rd_R (a := 17) (by omega), rd_R (a := 18) (by omega), sto_T (a := 18) (by omega), sto_T (a := 19) (by omega), T_ot (show (15 : Nat) ≠ 18 by decide), up2_eq, w32_k0, w32_k1, w32_of (z := Rz 80 18 Dc k) (by omega), w32_of (z := Rz 80 17 Dc k) (by omega)]
    by_cases q : w32 (iandZ (Rz 80 16 Dc k) x) = 0
    · rw [if_pos q, if_pos q, if_pos rfl]
    · rw [if_neg q, if_neg q]
      have e1 : ¬ (1 : Int) = 0 := by decide
      rw [if_neg e1]
      rcases hb with hb | ⟨hb, hb2⟩
      · subst hb
        rw [w32_k0, if_pos rfl]
        split <;> rfl
      · rw [b1] at hb2
        rw [hb2, if_neg e1]
  by_cases q : w32 (iandZ (Rz 80 16 Dc k) x) = 0
  · refine ⟨Dc, Dm, fun b hb => by rw [wc b hb, if_pos q], ?_, h.mono (by omega), Nc.rf _, Nm.rf _⟩
    unfold pM_tells
    rw [rdA_R (by omega), a1, if_pos q]
  · rcases c with ⟨c1, c2, c3⟩ | ⟨c1, c2, c3⟩
    · -- told now
      have hf : tmF Dc k = 0 := by unfold tmF; rw [if_pos c3]
      have hu := sm_upd (c := tmF Dc) (L := k) (v := 1) hk.1 80 80 rfl
      rw [if_neg (by omega), hf] at hu
      have hb80 := sm_bd (f := uI (tmF Dc) k 1) (b := 1) (by decide) 80 80 rfl (fun j _ _ => by
        unfold uI tmF
        split
        · omega
        · split <;> omega)
      have q80 : Dm 32 29 < 80 := by omega
      have hm : pM_tells k x Dm = okR 0 (up2 (Tz 80 63 (Tz 80 62 (Tz 80 61 Dm k 1) (Dm 32 29) k) (Dm 32 29) x) 32 29 (Dm 32 29 + 1)) := by
        unfold pM_tells
        rw [rdA_R (by omega), a1, if_neg q, rdA_R (by omega), c1, w32_k0, if_pos rfl, wrZ_T (by omega) (Or.inr rfl), T_ot (show (32 : Nat) ≠ 61 by decide), wrA_T (by omega), T_ot (show (32 : Nat) ≠ 62 by decide), T_ot (show (32 : Nat) ≠ 61 by decide), wrA_T (by omega)]
        simp only [gD]
        rw [T_ot (show (32 : Nat) ≠ 63 by decide), T_ot (show (32 : Nat) ≠ 62 by decide), T_ot (show (32 : Nat) ≠ 61 by decide)]
      refine ⟨Tz 80 19 (Tz 80 18 (up2 Dc 15 4 (Dc 15 4 + 1)) k x) k (Dc 15 4 + 1), _, fun b hb => by rw [wc b hb, if_neg q, if_pos c2], hm, ?_, ?_, ?_⟩
      · have r16 : ∀ i, Rz 80 16 (Tz 80 19 (Tz 80 18 (up2 Dc 15 4 (Dc 15 4 + 1)) k x) k (Dc 15 4 + 1)) i = Rz 80 16 Dc i := fun i => by rw [R_T_ot (by decide), R_T_ot (by decide), R_up2_ot (by decide)]
        have r17 : ∀ i, Rz 80 17 (Tz 80 19 (Tz 80 18 (up2 Dc 15 4 (Dc 15 4 + 1)) k x) k (Dc 15 4 + 1)) i = Rz 80 17 Dc i := fun i => by rw [R_T_ot (by decide), R_T_ot (by decide), R_up2_ot (by decide)]
        have r18 : ∀ i, Rz 80 18 (Tz 80 19 (Tz 80 18 (up2 Dc 15 4 (Dc 15 4 + 1)) k x) k (Dc 15 4 + 1)) i = if i = k then x else Rz 80 18 Dc i := fun i => by
          rw [R_T_ot (by decide), R_T, R_up2_ot (by decide)]
          by_cases z : i = k
          · rw [if_pos ⟨by omega, z⟩, if_pos z]
          · rw [if_neg (fun y => z y.2), if_neg z]
        have r19 : ∀ i, Rz 80 19 (Tz 80 19 (Tz 80 18 (up2 Dc 15 4 (Dc 15 4 + 1)) k x) k (Dc 15 4 + 1)) i = if i = k then Dc 15 4 + 1 else Rz 80 19 Dc i := fun i => by
          rw [R_T, R_T_ot (by decide), R_up2_ot (by decide)]
          by_cases z : i = k
          · rw [if_pos ⟨by omega, z⟩, if_pos z]
          · rw [if_neg (fun y => z y.2), if_neg z]
        have r15 : (Tz 80 19 (Tz 80 18 (up2 Dc 15 4 (Dc 15 4 + 1)) k x) k (Dc 15 4 + 1)) 15 4 = Dc 15 4 + 1 := by rw [T_ot (show (15 : Nat) ≠ 19 by decide), T_ot (show (15 : Nat) ≠ 18 by decide), up2_eq]
        have g59 : ∀ i, Rz 80 59 (up2 (Tz 80 63 (Tz 80 62 (Tz 80 61 Dm k 1) (Dm 32 29) k) (Dm 32 29) x) 32 29 (Dm 32 29 + 1)) i = Rz 80 59 Dm i := fun i => by rw [R_up2_ot (by decide), R_T_ot (by decide), R_T_ot (by decide), R_T_ot (by decide)]
        have g60 : ∀ i, Rz 80 60 (up2 (Tz 80 63 (Tz 80 62 (Tz 80 61 Dm k 1) (Dm 32 29) k) (Dm 32 29) x) 32 29 (Dm 32 29 + 1)) i = Rz 80 60 Dm i := fun i => by rw [R_up2_ot (by decide), R_T_ot (by decide), R_T_ot (by decide), R_T_ot (by decide)]
        have g61 : ∀ i, Rz 80 61 (up2 (Tz 80 63 (Tz 80 62 (Tz 80 61 Dm k 1) (Dm 32 29) k) (Dm 32 29) x) 32 29 (Dm 32 29 + 1)) i = if i = k then 1 else Rz 80 61 Dm i := fun i => by
          rw [R_up2_ot (by decide), R_T_ot (by decide), R_T_ot (by decide), R_T]
          by_cases z : i = k
          · rw [if_pos ⟨by omega, z⟩, if_pos z]
          · rw [if_neg (fun y => z y.2), if_neg z]
        have g62 : ∀ i, Rz 80 62 (up2 (Tz 80 63 (Tz 80 62 (Tz 80 61 Dm k 1) (Dm 32 29) k) (Dm 32 29) x) 32 29 (Dm 32 29 + 1)) i = if i = Dm 32 29 then k else Rz 80 62 Dm i := fun i => by
          rw [R_up2_ot (by decide), R_T_ot (by decide), R_T, R_T_ot (by decide)]
          by_cases z : i = Dm 32 29
          · rw [if_pos ⟨by omega, z⟩, if_pos z]
          · rw [if_neg (fun y => z y.2), if_neg z]
        have g63 : ∀ i, Rz 80 63 (up2 (Tz 80 63 (Tz 80 62 (Tz 80 61 Dm k 1) (Dm 32 29) k) (Dm 32 29) x) 32 29 (Dm 32 29 + 1)) i = if i = Dm 32 29 then x else Rz 80 63 Dm i := fun i => by
          rw [R_up2_ot (by decide), R_T, R_T_ot (by decide), R_T_ot (by decide)]
          by_cases z : i = Dm 32 29
          · rw [if_pos ⟨by omega, z⟩, if_pos z]
          · rw [if_neg (fun y => z y.2), if_neg z]
        have hne : ∀ i, 0 ≤ i → i < Dm 32 29 → Rz 80 62 Dm i ≠ k := fun i z1 z2 z3 => by
          have := (h4 i z1 z2).2.2
          rw [z3, c3] at this
          omega
        refine ⟨fun i z1 z2 => ?_, ?_, ?_, fun i z1 z2 => ?_, fun i j z1 z2 z3 => ?_, fun i z1 z2 z3 => ?_⟩
        · obtain ⟨w1, w2, w3, w4⟩ := h1 i z1 z2
          rw [g59, g60, g61, r16, r17, r18, r19, r15]
          refine ⟨w1, w2, ?_, ?_⟩
          · by_cases z : i = k
            · rw [if_pos z, if_pos z]
              exact Or.inr ⟨rfl, hx⟩
            · rw [if_neg z, if_neg z, if_neg z]
              exact w3
          · by_cases z : i = k
            · rw [if_pos z]; omega
            · rw [if_neg z]; omega
        · rw [r15]; omega
        · rw [up2_eq]
          refine ⟨by omega, ?_⟩
          have : tmF (Tz 80 19 (Tz 80 18 (up2 Dc 15 4 (Dc 15 4 + 1)) k x) k (Dc 15 4 + 1)) = uI (tmF Dc) k 1 := by
            funext i
            unfold tmF uI
            rw [r19]
            by_cases z : i = k
            · rw [if_pos z, if_neg (by omega), if_pos z]
            · rw [if_neg z, if_neg z]
          rw [this, hu]
          omega
        · rw [up2_eq] at z2
          rw [g62, g63, r18, r19]
          by_cases z : i = Dm 32 29
          · rw [if_pos z, if_pos z, if_pos rfl, if_pos rfl]
            exact ⟨hk, rfl, by omega⟩
          · rw [if_neg z, if_neg z, if_neg (hne i z1 (by omega)), if_neg (hne i z1 (by omega))]
            exact h4 i z1 (by omega)
        · rw [up2_eq] at z3
          rw [g62, g62, r19, r19, if_neg (show ¬ i = Dm 32 29 by omega), if_neg (hne i z1 (by omega))]
          by_cases z : j = Dm 32 29
          · rw [if_pos z, if_pos rfl]
            obtain ⟨w1, -, -⟩ := h4 i z1 (by omega)
            have := (h1 _ w1.1 w1.2).2.2.2.2
            omega
          · rw [if_neg z, if_neg (hne j (by omega) (by omega))]
            exact h5 i j z1 z2 (by omega)
        · rw [up2_eq]
          rw [r19] at z3
          by_cases z : i = k
          · exact ⟨Dm 32 29, by omega, by omega, by rw [g62, if_pos rfl, z]⟩
          · rw [if_neg z] at z3
            obtain ⟨j, y1, y2, y3⟩ := h6 i z1 z2 z3
            exact ⟨j, y1, by omega, by rw [g62, if_neg (by omega), y3]⟩
      · exact ⟨fun b hb => by rw [T_ot (nin hb (by decide)), T_ot (nin hb (by decide)), up2_ot (nin hb (by decide))], fun j hj => by rw [T_ot (show (15 : Nat) ≠ 19 by decide), T_ot (show (15 : Nat) ≠ 18 by decide), up2_nk hj]⟩
      · exact ⟨fun b hb => by rw [up2_ot (nin hb (by decide)), T_ot (nin hb (by decide)), T_ot (nin hb (by decide)), T_ot (nin hb (by decide))], fun j hj => by rw [up2_nk hj, T_ot (show (32 : Nat) ≠ 63 by decide), T_ot (show (32 : Nat) ≠ 62 by decide), T_ot (show (32 : Nat) ≠ 61 by decide)]⟩
    · refine ⟨Dc, Dm, fun b hb => by rw [wc b hb, if_neg q, if_neg (by omega)], ?_, h.mono (by omega), Nc.rf _, Nm.rf _⟩
      unfold pM_tells
      rw [rdA_R (by omega), a1, if_neg q, rdA_R (by omega), c1, w32_k1, if_neg (by decide)]
end TELL
