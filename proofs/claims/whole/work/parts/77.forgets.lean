/-! a watch is forgotten, or starts anew -/
section FORGETS
theorem forgets_loop {x q i0 : Int} {ka nu : Int → Int} (hq : 0 ≤ q ∧ q ≤ 80) (hi : 0 ≤ i0 ∧ i0 ≤ q) (hx : 0 ≤ x ∧ x < 80) (hka : ∀ i, 0 ≤ i → i < q → (0 ≤ ka i ∧ ka i < 80) ∧ (ka i = x ↔ i = i0)) : ∀ (f : Nat) (n a : Int) (D : DD), 0 ≤ a → a ≤ q → (q - a).toNat < f → D 32 29 = q → n = (if i0 < a then a - 1 else a) →
    (∀ i, 0 ≤ i → i < n → Rz 80 62 D i = delF ka i0 i ∧ Rz 80 63 D i = delF nu i0 i) → (∀ i, a ≤ i → i < q → Rz 80 62 D i = ka i ∧ Rz 80 63 D i = nu i) →
    ∃ D', (∀ K, pM_forgets_25 x f n a D K = K (if i0 < q then q - 1 else q) D') ∧ (∀ b, b ∉ [62, 63] → D' b = D b) ∧ ∀ i, 0 ≤ i → i < (if i0 < q then q - 1 else q) → Rz 80 62 D' i = delF ka i0 i ∧ Rz 80 63 D' i = delF nu i0 i := by
  intro f
  induction f with
  | zero => intro n a D h1 h2 h3; omega
  | succ f ih =>
    intro n a D h1 h2 h3 h4 h5 h6 h7
    by_cases g : a < q
    · obtain ⟨b1, b2⟩ := hka a h1 g
      obtain ⟨c1, c2⟩ := h7 a (Int.le_refl _) g
      have hn : 0 ≤ n ∧ n ≤ a := by
        rw [h5]
        split <;> omega
      have rd62 : Rz 80 62 (Tz 80 63 (Tz 80 62 D n (ka a)) n (nu a)) a = ka a := by
        rw [R_T_ot (by decide), R_T]
        split
        · rfl
        · exact c1
      have base : ∀ i, Rz 80 62 (Tz 80 63 (Tz 80 62 D n (ka a)) n (nu a)) i = (if i = n then ka a else Rz 80 62 D i) ∧ Rz 80 63 (Tz 80 63 (Tz 80 62 D n (ka a)) n (nu a)) i = (if i = n then nu a else Rz 80 63 D i) := fun i => by
        rw [R_T_ot (by decide), R_T, R_T, R_T_ot (by decide)]
        by_cases z : i = n
        · rw [if_pos ⟨by omega, z⟩, if_pos z, if_pos ⟨by omega, z⟩, if_pos z]
          exact ⟨rfl, rfl⟩
        · rw [if_neg (fun y => z y.2), if_neg z, if_neg (fun y => z y.2), if_neg z]
          exact ⟨rfl, rfl⟩
      obtain ⟨D', k1, k2, k3⟩ := ih (if i0 < a + 1 then a + 1 - 1 else a + 1) (a + 1) (Tz 80 63 (Tz 80 62 D n (ka a)) n (nu a)) (by omega) (by omega) (by omega) (by rw [T_ot (by decide), T_ot (by decide)]; exact h4) rfl (fun i y z => by
        obtain ⟨e1, e2⟩ := base i
        rw [e1, e2]
        by_cases w : i = n
        · rw [if_pos w, if_pos w]
          unfold delF
          by_cases w1 : i0 < a
          · rw [if_pos w1] at h5
            rw [if_neg (show ¬ i < i0 by omega), if_neg (show ¬ i < i0 by omega), show i + 1 = a by omega]
            exact ⟨rfl, rfl⟩
          · rw [if_neg w1] at h5
            by_cases w2 : i0 = a
            · rw [if_pos (by omega)] at z
              omega
            · rw [if_pos (show i < i0 by omega), if_pos (show i < i0 by omega), show i = a by omega]
              exact ⟨rfl, rfl⟩
        · rw [if_neg w, if_neg w]
          refine h6 i y ?_
          by_cases w1 : i0 < a
          · rw [if_pos w1] at h5
            rw [if_pos (by omega)] at z
            omega
          · rw [if_neg w1] at h5
            by_cases w2 : i0 < a + 1
            · rw [if_pos w2] at z; omega
            · rw [if_neg w2] at z; omega) (fun i y z => by
        obtain ⟨e1, e2⟩ := base i
        rw [e1, e2, if_neg (by omega), if_neg (by omega)]
        exact h7 i (by omega) z)
      refine ⟨D', fun K => ?_, fun b hb => by rw [k2 b hb, T_ot (nin hb (by decide)), T_ot (nin hb (by decide))], k3⟩
      rw [pM_forgets_25, h4, w32_of (z := a) (by omega), w32_of (z := q) (by omega), if_pos g, rdA_R (by omega), c1, wrA_T (by omega), rdA_R (by omega), R_T_ot (by decide), c2, wrA_T (by omega), rdA_R (by omega), rd62]
      simp only [jnR, ltR]
      rw [w32_of (z := ka a) (by omega), w32_of (z := x) (by omega)]
      by_cases w : ka a = x
      · have := b2.1 w
        rw [if_pos w]
        have e : n + 0 = if i0 < a + 1 then a + 1 - 1 else a + 1 := by
          rw [h5, if_neg (by omega), if_pos (by omega)]; omega
        rw [e]
        exact k1 K
      · have : a ≠ i0 := fun z => w (b2.2 z)
        rw [if_neg w]
        have e : n + 1 = if i0 < a + 1 then a + 1 - 1 else a + 1 := by
          rw [h5]
          by_cases z : i0 < a
          · rw [if_pos z, if_pos (by omega)]; omega
          · rw [if_neg z, if_neg (by omega)]
        rw [e]
        exact k1 K
    · have e : a = q := by omega
      subst e
      refine ⟨D, fun K => ?_, fun _ _ => rfl, fun i y z => h6 i y (by rw [h5]; exact z)⟩
      rw [pM_forgets_25, h4, if_neg (by omega), h5]
/-- a watch starts anew (or is at its end): class and reference -/
theorem start_both {Dc Dm : DD} {m k : Int} (h : Wt Dc Dm m) (hk : 0 ≤ k ∧ k < 80) : ∃ Dm', pM_forgets k Dm = okR 0 Dm' ∧ (∀ b, b ∉ [32, 59, 60, 61, 62, 63] → Dm' b = Dm b) ∧ (∀ j, j ≠ 29 → Dm' 32 j = Dm 32 j) ∧ Rz 80 59 Dm' k = 0 ∧ Rz 80 60 Dm' k = 0 ∧
    ∀ v d Dm'', (0 ≤ v ∧ v ≤ 7) → (d = 0 ∨ d = 1) → (∀ b, b ∉ [59, 60] → Dm'' b = Dm' b) → (∀ i, 0 ≤ i → i < 80 → Rz 80 59 Dm'' i = if i = k then v else Rz 80 59 Dm' i) → (∀ i, 0 ≤ i → i < 80 → Rz 80 60 Dm'' i = if i = k then d else Rz 80 60 Dm' i) →
      Wt (pW_start k v d Dc) Dm'' m ∧ (∀ b, b ∉ [16, 17, 18, 19] → pW_start k v d Dc b = Dc b) := by
  obtain ⟨h1, h2, h3, h4, h5, h6⟩ := id h
  have hq80 := sm_bd (f := tmF Dc) (b := 1) (by decide) 80 80 rfl (fun j _ _ => by unfold tmF; split <;> omega)
  -- where the key lies in the row
  obtain ⟨i0, hi0, hi1⟩ : ∃ i0, (0 ≤ i0 ∧ i0 ≤ Dm 32 29) ∧ ∀ i, 0 ≤ i → i < Dm 32 29 → (Rz 80 62 Dm i = k ↔ i = i0) := by
    by_cases g : ∃ i, 0 ≤ i ∧ i < Dm 32 29 ∧ Rz 80 62 Dm i = k
    · obtain ⟨i, a, b, c⟩ := g
      refine ⟨i, by omega, fun j x y => ⟨fun z => ?_, fun z => by rw [z]; exact c⟩⟩
      by_cases w : i < j
      · have := h5 i j a w y
        rw [c, z] at this; omega
      · by_cases w2 : j < i
        · have := h5 j i x w2 b
          rw [c, z] at this; omega
        · omega
    · exact ⟨Dm 32 29, by omega, fun i a b => ⟨fun z => absurd ⟨i, a, b, z⟩ g, fun z => by omega⟩⟩
  have e32 : (Tz 80 61 (Tz 80 60 (Tz 80 59 Dm k 0) k 0) k 0) 32 = Dm 32 := by rw [T_ot (by decide), T_ot (by decide), T_ot (by decide)]
  obtain ⟨D1, k1, k2, k3⟩ := forgets_loop (x := k) (ka := Rz 80 62 Dm) (nu := Rz 80 63 Dm) (q := Dm 32 29) (i0 := i0) (by omega) hi0 hk (fun i a b => ⟨(h4 i a b).1, hi1 i a b⟩) fu 0 0 (Tz 80 61 (Tz 80 60 (Tz 80 59 Dm k 0) k 0) k 0) (by omega) (by omega) (fu_gt (by omega)) (by rw [e32]) (by rw [if_neg (by omega)]) (fun i a b => by omega) (fun i a b => by
    rw [R_T_ot (by decide), R_T_ot (by decide), R_T_ot (by decide), R_T_ot (by decide), R_T_ot (by decide), R_T_ot (by decide)]
    exact ⟨rfl, rfl⟩)
  sorry
end FORGETS
