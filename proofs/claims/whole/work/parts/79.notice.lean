/-! takeNotice -/
section NOTICE
theorem shift_loop {x q : Int} {ka nu : Int → Int} (hq : 0 ≤ q ∧ q ≤ 79) : ∀ (f : Nat) (a : Int) (D : DD), 0 ≤ a → a ≤ q → (q - a).toNat < f → D 32 29 = q → (∀ i, 0 ≤ i → i < a → Rz 80 62 D i = ka (i + 1) ∧ Rz 80 63 D i = nu (i + 1)) → (∀ i, a ≤ i → i ≤ q → Rz 80 62 D i = ka i ∧ Rz 80 63 D i = nu i) →
    ∃ D', pM_takeNotice_43 x f a D = okR x D' ∧ (∀ b, b ∉ [62, 63] → D' b = D b) ∧ ∀ i, 0 ≤ i → i < q → Rz 80 62 D' i = ka (i + 1) ∧ Rz 80 63 D' i = nu (i + 1) := by
  intro f
  induction f with
  | zero => intro a D h1 h2 h3; omega
  | succ f ih =>
    intro a D h1 h2 h3 h4 h5 h6
    rw [pM_takeNotice_43, h4, w32_of (z := a) (by omega), w32_of (z := q) (by omega)]
    by_cases g : a < q
    · obtain ⟨c1, c2⟩ := h6 (a + 1) (by omega) (by omega)
      have base : ∀ i, Rz 80 62 (Tz 80 63 (Tz 80 62 D a (ka (a + 1))) a (nu (a + 1))) i = (if i = a then ka (a + 1) else Rz 80 62 D i) ∧ Rz 80 63 (Tz 80 63 (Tz 80 62 D a (ka (a + 1))) a (nu (a + 1))) i = (if i = a then nu (a + 1) else Rz 80 63 D i) := fun i => by
        rw [R_T_ot (by decide), R_T, R_T, R_T_ot (by decide)]
        by_cases z : i = a
        · rw [if_pos ⟨by omega, z⟩, if_pos z, if_pos ⟨by omega, z⟩, if_pos z]
          exact ⟨rfl, rfl⟩
        · rw [if_neg (fun y => z y.2), if_neg z, if_neg (fun y => z y.2), if_neg z]
          exact ⟨rfl, rfl⟩
      obtain ⟨D', k1, k2, k3⟩ := ih (a + 1) (Tz 80 63 (Tz 80 62 D a (ka (a + 1))) a (nu (a + 1))) (by omega) (by omega) (by omega) (by rw [T_ot (by decide), T_ot (by decide)]; exact h4) (fun i y z => by
        obtain ⟨e1, e2⟩ := base i
        rw [e1, e2]
        by_cases w : i = a
        · rw [if_pos w, if_pos w, w]; exact ⟨rfl, rfl⟩
        · rw [if_neg w, if_neg w]; exact h5 i y (by omega)) (fun i y z => by
        obtain ⟨e1, e2⟩ := base i
        rw [e1, e2, if_neg (by omega), if_neg (by omega)]
        exact h6 i (by omega) z)
      refine ⟨D', ?_, fun b hb => by rw [k2 b hb, T_ot (nin hb (by decide)), T_ot (nin hb (by decide))], k3⟩
      rw [if_pos g, rdA_R (by omega), c1, wrA_T (by omega), rdA_R (by omega), R_T_ot (by decide), c2, wrA_T (by omega)]
      exact k1
    · exact ⟨D, by rw [if_neg g], fun _ _ => rfl, fun i y z => h5 i y (by omega)⟩
/-- who was told first -/
theorem first_none {D : DD} (h : ∀ k, 0 ≤ k → k < 80 → Rz 80 19 D k = 0) : ∀ (f : Nat) (a : Int), 0 ≤ a → a ≤ 80 → (80 - a).toNat < f → pW_keyToldFirst_4 f (-1) a D = okR (-1) D := by
  intro f
  induction f with
  | zero => intro a h1 h2 h3; omega
  | succ f ih =>
    intro a h1 h2 h3
    rw [pW_keyToldFirst_4, w32_of (z := a) (by omega)]
    by_cases g : a < 80
    · simp only [ltR, jnR]
      rw [if_pos g, rd_R (by omega), h a h1 g, w32_k0, if_pos rfl]
      exact ih (a + 1) (by omega) (by omega) (by omega)
    · rw [if_neg g]
theorem first_loop {D : DD} {K : Int} (hK : 0 ≤ K ∧ K < 80) (hb : ∀ k, 0 ≤ k → k < 80 → 0 ≤ Rz 80 19 D k ∧ Rz 80 19 D k ≤ 1000000) (h1 : Rz 80 19 D K ≠ 0) (h2 : ∀ k, 0 ≤ k → k < 80 → Rz 80 19 D k ≠ 0 → k ≠ K → Rz 80 19 D K < Rz 80 19 D k) : ∀ (f : Nat) (c a : Int), 0 ≤ a → a ≤ 80 → (80 - a).toNat < f → (K < a → c = K) → (a ≤ K → c = -1 ∨ ((0 ≤ c ∧ c < a) ∧ Rz 80 19 D c ≠ 0)) → pW_keyToldFirst_4 f c a D = okR K D := by
  intro f
  induction f with
  | zero => intro c a g1 g2 g3; omega
  | succ f ih =>
    intro c a g1 g2 g3 g4 g5
    rw [pW_keyToldFirst_4, w32_of (z := a) (by omega)]
    by_cases g : a < 80
    · have b1 := hb a g1 g
      have hc : -1 ≤ c ∧ c < 80 := by
        by_cases z : K < a
        · have := g4 z; omega
        · rcases g5 (by omega) with w | w <;> omega
      simp only [ltR, jnR]
      rw [if_pos g, rd_R (i := a) (by omega), rd_R (i := c) (by omega), w32_of (z := Rz 80 19 D a) (by omega), w32_of (z := c) (by omega)]
      by_cases q : Rz 80 19 D a = 0
      · have ne : a ≠ K := fun z => h1 (by rw [← z]; exact q)
        rw [if_pos q]
        exact ih c (a + 1) (by omega) (by omega) (by omega) (fun z => g4 (by omega)) (fun z => by
          rcases g5 (by omega) with w | ⟨w1, w2⟩
          · exact Or.inl w
          · exact Or.inr ⟨by omega, w2⟩)
      · rw [if_neg q]
        by_cases q2 : c = -1
        · rw [if_pos q2]
          have : a ≤ K := by
            by_cases z : K < a
            · have := g4 z; omega
            · omega
          exact ih a (a + 1) (by omega) (by omega) (by omega) (fun z => by omega) (fun z => Or.inr ⟨by omega, q⟩)
        · have b2 := hb c (by omega) (by omega)
          rw [if_neg q2, w32_of (z := Rz 80 19 D c) (by omega)]
          by_cases q3 : Rz 80 19 D a < Rz 80 19 D c
          · rw [if_pos q3]
            have : a ≤ K := by
              by_cases z : K < a
              · have e := g4 z
                have := h2 a g1 g q (by omega)
                rw [e] at q3
                omega
              · omega
            exact ih a (a + 1) (by omega) (by omega) (by omega) (fun z => by omega) (fun z => Or.inr ⟨by omega, q⟩)
          · rw [if_neg q3]
            refine ih c (a + 1) (by omega) (by omega) (by omega) (fun z => ?_) (fun z => ?_)
            · by_cases w : K < a
              · exact g4 w
              · have e : a = K := by omega
                rcases g5 (by omega) with y | ⟨y1, y2⟩
                · exact absurd y q2
                · have := h2 c (by omega) (by omega) y2 (by omega)
                  rw [e] at q3
                  omega
            · rcases g5 (by omega) with w | ⟨w1, w2⟩
              · exact Or.inl w
              · exact Or.inr ⟨by omega, w2⟩
    · rw [if_neg g, g4 (by omega)]
theorem takeNotice_ok {Dc Dm : DD} {m : Int} (h : St Dc Dm m) : Ok [] Dc Dm m (pH_takeNotice Dc) (pM_takeNotice Dm) := by
  obtain ⟨h1, h2, h3, h4, h5, h6⟩ := id h.2.2.1
  have hm := h.2.2.2
  have hq80 := sm_bd (f := tmF Dc) (b := 1) (by decide) 80 80 rfl (fun j _ _ => by unfold tmF; split <;> omega)
  have e29 : up2 Dm 32 42 0 32 29 = Dm 32 29 := up2_nk (by decide)
  by_cases g : Dm 32 29 = 0
  · refine Ok.same (v := -1) h ?_ ?_
    · unfold pM_takeNotice
      simp only [gD]
      rw [e29, g, w32_k0, if_pos rfl]
    · unfold pH_takeNotice pW_keyToldFirst
      rw [first_none (fun k a b => Classical.byContradiction fun z => by obtain ⟨i, x, y, -⟩ := h6 k a b z; omega) fu 0 (by omega) (by omega) (fu_gt (by omega)), bnd_ok, w32_m1, if_pos rfl]
  · obtain ⟨a1, a2, a3⟩ := h4 0 (by omega) (by omega)
    obtain ⟨K, hK⟩ : ∃ K, K = Rz 80 62 Dm 0 := ⟨_, rfl⟩
    rw [← hK] at a1 a2 a3
    have hi1 : ∀ i, 0 ≤ i → i < Dm 32 29 → Rz 80 62 Dm i = K → i = 0 := fun i x y z => by
      by_cases w : 0 < i
      · have := h5 0 i (by omega) w y
        rw [← hK, z] at this; omega
      · omega
    have cl := first_loop (D := Dc) a1 (fun k x y => by have := (h1 k x y).2.2.2; omega) (by omega) (fun k x y z w => by
      obtain ⟨i, y1, y2, y3⟩ := h6 k x y z
      have : i ≠ 0 := fun u => w (by rw [← y3, u, hK])
      have := h5 0 i (by omega) (by omega) y2
      rw [← hK, y3] at this
      exact this) fu (-1) 0 (by omega) (by omega) (fu_gt (by omega)) (fun z => by omega) (fun _ => Or.inl rfl)
    obtain ⟨D', k1, k2, k3⟩ := shift_loop (x := 10 * K + Rz 80 18 Dc K) (q := Dm 32 29 - 1) (ka := Rz 80 62 Dm) (nu := Rz 80 63 Dm) (by omega) fu 0 (up2 (up2 Dm 32 42 0) 32 29 (Dm 32 29 - 1)) (by omega) (by omega) (fu_gt (by omega)) (up2_eq ..) (fun i x y => by omega) (fun i x y => by
      rw [R_up2_ot (by decide), R_up2_ot (by decide), R_up2_ot (by decide), R_up2_ot (by decide)]
      exact ⟨rfl, rfl⟩)
    have r62 : up2 Dm 32 42 0 62 0 = K := by rw [up2_ot (by decide), hK]; rfl
    have r63 : up2 Dm 32 42 0 63 0 = Rz 80 18 Dc K := by rw [up2_ot (by decide), ← a2]; rfl
    have fm : ∀ b, b ∉ [32, 62, 63] → D' b = Dm b := fun b hb => by rw [k2 b (nsub hb (by decide)), up2_ot (nin hb (by decide)), up2_ot (nin hb (by decide))]
    have f32 : D' 32 = up2 (up2 Dm 32 42 0) 32 29 (Dm 32 29 - 1) 32 := k2 32 (by decide)
    have r19 : ∀ i, Rz 80 19 (Tz 80 19 Dc K 0) i = if i = K then 0 else Rz 80 19 Dc i := fun i => by
      rw [R_T]
      by_cases z : i = K
      · rw [if_pos ⟨by omega, z⟩, if_pos z]
      · rw [if_neg (fun y => z y.2), if_neg z]
    have fc : ∀ b, b ≠ 19 → Tz 80 19 Dc K 0 b = Dc b := fun b hb => T_ot hb
    refine ⟨Tz 80 19 Dc K 0, D', 10 * K + Rz 80 18 Dc K, ?_, ⟨h.1.eqv (fun b x y => fc b (by omega)) (fun b x y => fm b (by simp only [List.mem_cons, List.not_mem_nil, or_false]; omega)), h.2.1.cong (by rw [fc 7 (by decide)]) (fm 58 (by decide)), ?_⟩, fun b hb => fc b (by omega), ⟨fun b hb => fm b (by simp only [List.mem_cons, List.not_mem_nil, or_false]; omega), fun j x y => by rw [f32, up2_nk (by omega), up2_nk (by omega)], fun a i x y z => by rw [fm a (by simp only [List.mem_cons, List.not_mem_nil, or_false]; omega)]⟩, Or.inl ⟨?_, by rw [f32, up2_nk (by decide), up2_eq]⟩⟩
    · unfold pM_takeNotice
      simp only [gD, ltR]
      rw [e29, w32_of (by omega), if_neg g, r62, r63]
      exact k1
    · refine Wt.mono (m := m) ⟨fun i x y => ?_, ?_, ?_, fun i x y => ?_, fun i j x y z => ?_, fun i x y z => ?_⟩ (by omega)
      · obtain ⟨y1, y2, y3, y4⟩ := h1 i x y
        rw [R_cg (fm 59 (by decide)), R_cg (fm 60 (by decide)), R_cg (fm 61 (by decide)), R_cg (fc 16 (by decide)), R_cg (fc 17 (by decide)), R_cg (fc 18 (by decide)), r19, fc 15 (by decide)]
        by_cases z : i = K
        · rw [if_pos z]
          refine ⟨y1, y2, ?_, by omega⟩
          rcases y3 with w | w
          · exact Or.inl ⟨w.1, w.2.1, rfl⟩
          · exact Or.inr w
        · rw [if_neg z]
          exact ⟨y1, y2, y3, y4⟩
      · rw [fc 15 (by decide)]; exact h2
      · rw [f32, up2_eq]
        refine ⟨by omega, ?_⟩
        have e : tmF (Tz 80 19 Dc K 0) = uI (tmF Dc) K 0 := by
          funext i
          unfold tmF uI
          rw [r19]
          by_cases z : i = K
          · rw [if_pos z, if_pos rfl, if_pos z]
          · rw [if_neg z, if_neg z]
        rw [e, sm_upd a1.1 80 80 rfl, if_neg (show ¬ (80 : Int) ≤ K by omega), ← h3.2]
        unfold tmF
        rw [if_neg (by omega)]
        omega
      · rw [f32, up2_eq] at y
        obtain ⟨e1, e2⟩ := k3 i x y
        have hne : Rz 80 62 Dm (i + 1) ≠ K := fun z => by have := hi1 (i + 1) (by omega) (by omega) z; omega
        rw [e1, e2, R_cg (fc 18 (by decide)), r19, if_neg hne]
        exact h4 (i + 1) (by omega) (by omega)
      · rw [f32, up2_eq] at z
        have n1 : Rz 80 62 Dm (i + 1) ≠ K := fun z => by have := hi1 (i + 1) (by omega) (by omega) z; omega
        have n2 : Rz 80 62 Dm (j + 1) ≠ K := fun z => by have := hi1 (j + 1) (by omega) (by omega) z; omega
        rw [(k3 i x (by omega)).1, (k3 j (by omega) z).1, r19, r19, if_neg n1, if_neg n2]
        exact h5 (i + 1) (j + 1) (by omega) (by omega) (by omega)
      · rw [r19] at z
        by_cases w : i = K
        · rw [if_pos w] at z; exact absurd rfl z
        · rw [if_neg w] at z
          obtain ⟨j, y1, y2, y3⟩ := h6 i x y z
          have hj : j ≠ 0 := fun u => w (by rw [← y3, u, hK])
          rw [f32, up2_eq]
          refine ⟨j - 1, by omega, by omega, ?_⟩
          rw [(k3 (j - 1) (by omega) (by omega)).1, show j - 1 + 1 = j by omega, y3]
    · unfold pH_takeNotice pW_keyToldFirst pW_takeKindTold
      simp only [gD]
      rw [cl, bnd_ok, w32_of (by omega), if_neg (by omega), bnd_ok, sto_T (by omega), rd_R (by omega), R_T_ot (by decide)]
end NOTICE
