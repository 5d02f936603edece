/-! unit, follow -/
section READS2
variable {Dc Dm : DD} {m : Int}
theorem val_both {k x : Int} (h : Tr Dc Dm) (hk : 0 ≤ k ∧ k < 80) (ht : th Dm k) (hx : -2147483648 ≤ x ∧ x ≤ 2147483647) : ∃ r, ((r = -1 ∧ ∀ j, 0 ≤ j → j < Rz 240 48 Dm k → vN Dm k j ≠ x) ∨ (0 ≤ r ∧ r < Rz 240 48 Dm k ∧ vN Dm k r = x)) ∧ pV_cellNamed (Rz 240 40 Dm k) x Dc = okR (if r = -1 then 0 else vP Dm k r) Dc ∧ pM_valueOf k x Dm = okR (if r = -1 then -1 else 8 * k + r) Dm := by
  obtain ⟨p1, p2, p3⟩ := h.place hk ht
  have hV := (St.kr h hk ht).2.2.2.2.2.2
  have hT := h.1.1.1
  have hsc := h.1.1.2.1
  have ex : ∃ r, (r = -1 ∧ ∀ j, 0 ≤ j → j < Rz 240 48 Dm k → vN Dm k j ≠ x) ∨ (0 ≤ r ∧ r < Rz 240 48 Dm k ∧ vN Dm k r = x) := by
    by_cases g : ∃ r, 0 ≤ r ∧ r < Rz 240 48 Dm k ∧ vN Dm k r = x
    · obtain ⟨r, hr⟩ := g
      exact ⟨r, Or.inr hr⟩
    · exact ⟨-1, Or.inl ⟨rfl, fun j a b e => g ⟨j, a, b, e⟩⟩⟩
  obtain ⟨r, hr⟩ := ex
  exact ⟨r, hr, cellNamed_c hV hT (by omega) (by omega) rfl hx hr, valueOf_m hk rfl hV.1 (fun j a b => (hV.2.2.2.1 j a b).1) hV.2.2.2.2 hx hr⟩
theorem unit_ok {k x u : Int} (h : St Dc Dm m) (hk : -2147483648 ≤ k ∧ k ≤ 2147483647) (hx : -2147483648 ≤ x ∧ x ≤ 2147483647) (hu : -2147483648 ≤ u ∧ u ≤ 2147483647) : Ok [(0, 1)] Dc Dm m (pH_unit k x u Dc) (pM_unit k x u Dm) := by
  rcases key_both h.1 hk with ⟨g, t, c0, c, d⟩ | ⟨g, c0, c, d⟩
  · obtain ⟨p1, p2, p3⟩ := h.1.place g t
    have hV := (St.kr h.1 g t).2.2.2.2.2.2
    have hT := h.1.1.1.1
    have hsc := h.1.1.1.2.1
    obtain ⟨r, hr, e1, e2⟩ := val_both h.1 g t hx
    rcases hr with ⟨r1, r2⟩ | ⟨r1, r2, r3⟩
    · rw [if_pos r1] at e1 e2
      refine Ok.err (v := 0) (e := 0) (x := 1) h (by decide) ?_ ?_
      · unfold pM_unit
        rw [d, bnd_ok]
        simp only [jnR]
        rw [w32_k1, if_neg (by decide), e2, bnd_ok, w32_m1, if_pos rfl, w32_k0, if_pos rfl, if_pos rfl, failsP (by omega), bnd_ok, w32_k1, if_neg (by decide)]
      · unfold pH_unit pI_placeOfKey pH_requireValue
        rw [c, bnd_ok, rd_R hk, p1, e1, bnd_ok, w32_k0, if_pos rfl, bnd_er]
    · rw [if_neg (by omega)] at e1 e2
      have hv := hV.vpos hT (by omega) r1 r2
      obtain ⟨a1, a2, a3, a4, a5, -⟩ := hV.2.2.2.1 r r1 r2
      have n8 := hV.1
      have ln := lengthOf_c hV hT (by omega) r1 r2
      have hin : pM_isIn u 0 (vL Dm k r - 1) = if 0 ≤ u ∧ u ≤ vL Dm k r - 1 then 1 else 0 := isIn_m hu (by omega) (by omega)
      have e53 : Rz 1920 53 Dm (8 * k + r) = vL Dm k r := rfl
      by_cases q : 0 ≤ u ∧ u ≤ vL Dm k r - 1
      · refine Ok.same (v := 31 * vS Dm k r + 17 * u) h ?_ ?_
        · unfold pM_unit
          rw [d, bnd_ok]
          simp only [jnR]
          rw [w32_k1, if_neg (by decide), e2, bnd_ok, w32_of (by omega), if_neg (by omega), if_neg (by decide), e2, bnd_ok, if_neg (by decide), rdA_R (by omega), e53, hin, if_pos q, if_neg (by decide), fails0, bnd_ok, w32_k0, if_pos rfl, rdA_R (by omega), R_up2_ot (by decide)]
          rfl
        · unfold pH_unit pI_placeOfKey pH_requireValue pV_seedOf pI_unitAt
          simp only [jnR]
          rw [c, bnd_ok, rd_R hk, p1, e1, bnd_ok, w32_of (z := vP Dm k r) (by omega), if_neg (by omega), bnd_ok, w32_of hu, if_neg (by omega), ln, w32_of (by omega), if_pos (by omega), rd_R (by omega), a5]
      · refine Ok.err (v := 0) (e := 0) (x := 1) h (by decide) ?_ ?_
        · unfold pM_unit
          rw [d, bnd_ok]
          simp only [jnR]
          rw [w32_k1, if_neg (by decide), e2, bnd_ok, w32_of (by omega), if_neg (by omega), if_neg (by decide), e2, bnd_ok, if_neg (by decide), rdA_R (by omega), e53, hin, if_neg q, if_pos rfl, failsP (by omega), bnd_ok, w32_k1, if_neg (by decide)]
        · unfold pH_unit pI_placeOfKey pH_requireValue
          simp only [jnR]
          rw [c, bnd_ok, rd_R hk, p1, e1, bnd_ok, w32_of (z := vP Dm k r) (by omega), if_neg (by omega), bnd_ok, w32_of hu]
          by_cases q2 : u < 0
          · rw [if_pos q2]
          · rw [if_neg q2, ln, w32_of (by omega), if_neg (by omega)]
  · refine Ok.err (v := 0) (e := 0) (x := 1) h (by decide) ?_ ?_
    · unfold pM_unit
      rw [d, bnd_ok]
      simp only [jnR]
      rw [w32_k0, if_pos rfl, if_pos rfl, if_pos rfl, failsP (by omega), bnd_ok, w32_k1, if_neg (by decide)]
    · unfold pH_unit
      rw [c, bnd_er]
theorem isLink_c {a : Int} (h : Tr Dc Dm) (ha : 0 ≤ a ∧ a < 80) (ht : th Dm a) : pH_isLink a Dc = if Rz 240 39 Dm a = -1 then 0 else 1 := by
  obtain ⟨p1, p2, p3⟩ := h.place ha ht
  have hkr := St.kr h ha ht
  rcases key_both h (k := a) (by omega) with ⟨g, t, c0, c, d⟩ | ⟨g, c0, c, d⟩
  · unfold pH_isLink
    rw [c0, if_neg (by decide)]
    unfold pI_placeOfKey pI_unitAt
    rw [rd_R (i := a) (by omega), p1, rd_R (by omega), hkr.2.2.1.2.2.2, w32_of (by have := hkr.2.2.2.1.2.2.1; omega)]
  · exact absurd ⟨ha, ht⟩ g
theorem follow_loop (h : Tr Dc Dm) : ∀ (r f g : Nat) (a l : Int), r + 1 < f → r + 2 < g → 0 ≤ l → l + r = 4 → 0 ≤ a ∧ a < 80 → th Dm a →
    ∃ v, pH_follow_9 f a l Dc (fun x1 D2 => if pH_hasKey x1 D2 = 0 then okR (-1) D2 else if pH_isLink x1 D2 = 0 then okR x1 D2 else okR (-1) D2) = okR v Dc ∧ pM_follow_26 g a l Dm = okR v Dm := by
  intro r
  induction r with
  | zero =>
    intro f g a l hf hg l0 hl ha ht
    match f, g, hf, hg with
    | f + 1, g + 2, hf, hg =>
      have hl4 : l = 4 := by omega
      subst hl4
      have hlk := isLink_c h ha ht
      have hta := (St.kr h ha ht).2.2.2.1.2.2.1
      have c0 : pH_hasKey a Dc = 1 := by
        rcases key_both h (k := a) (by omega) with ⟨g, t, c0, -⟩ | ⟨g, -⟩
        · exact c0
        · exact absurd ⟨ha, ht⟩ g
      rw [pH_follow_9, pM_follow_26, w32_of (z := 4) (by omega), if_neg (by decide), c0, if_neg (by decide), hlk, w32_of (z := a) (by omega), if_neg (show ¬ a = -1 by omega), rdA_R (by omega), w32_of (z := Rz 240 39 Dm a) (by omega)]
      by_cases q : Rz 240 39 Dm a = -1
      · rw [if_pos q, if_pos rfl, if_pos q]
        exact ⟨a, rfl, rfl⟩
      · rw [if_neg q, if_neg (by decide), if_neg q]
        refine ⟨-1, rfl, ?_⟩
        simp only [jnR]
        rw [w32_of (z := 4 + 1) (by omega), if_pos (by decide), pM_follow_26, w32_m1, if_pos rfl]
  | succ r ih =>
    intro f g a l hf hg l0 hl ha ht
    match f, g, hf, hg with
    | f + 1, g + 1, hf, hg =>
      have hlk := isLink_c h ha ht
      have hkr := St.kr h ha ht
      have hta := hkr.2.2.2.1.2.2.1
      obtain ⟨p1, p2, p3⟩ := h.place ha ht
      have c0 : pH_hasKey a Dc = 1 := by
        rcases key_both h (k := a) (by omega) with ⟨g, t, c0, -⟩ | ⟨g, -⟩
        · exact c0
        · exact absurd ⟨ha, ht⟩ g
      rw [pH_follow_9, pM_follow_26, w32_of (z := l) (by omega), if_pos (by omega), hlk, w32_of (z := a) (by omega), if_neg (show ¬ a = -1 by omega), rdA_R (by omega), w32_of (z := Rz 240 39 Dm a) (by omega)]
      by_cases q : Rz 240 39 Dm a = -1
      · rw [if_pos q, if_pos rfl, if_pos q, c0, if_neg (by decide), if_pos rfl]
        exact ⟨a, rfl, rfl⟩
      · rw [if_neg q, if_neg (by decide), if_neg q]
        simp only [jnR, ltR, pI_unitAt, pI_placeOfKey]
        have hb : 0 ≤ Rz 240 39 Dm a ∧ Rz 240 39 Dm a < 80 := by omega
        rw [rd_R (i := a) (by omega), p1, rd_R (by omega), hkr.2.2.1.2.2.2, w32_of (z := l + 1) (by omega), if_neg (by omega), rdA_R (by omega), rdA_R (by omega), rdA_R (by omega)]
        rcases (h.2.2.1 _ hb.1 hb.2).1 with z | z
        · rw [z, w32_k0, if_pos rfl]
          have hk0 : pH_hasKey (Rz 240 39 Dm a) Dc = 0 := by
            rcases key_both h (k := Rz 240 39 Dm a) (by omega) with ⟨g, t, c0, -⟩ | ⟨g, c0, -⟩
            · unfold th at t; omega
            · exact c0
          have hl0 : pH_isLink (Rz 240 39 Dm a) Dc = 0 := by
            unfold pH_isLink
            rw [hk0, if_pos rfl]
          match f, g, hf, hg with
          | f + 1, g + 1, hf, hg =>
            refine ⟨-1, ?_, ?_⟩
            · rw [pH_follow_9, hl0, if_pos rfl, hk0, if_pos rfl]
              split <;> rfl
            · rw [pM_follow_26, w32_m1, if_pos rfl]
        · rw [z, w32_k1, if_neg (by decide)]
          exact ih f g _ (l + 1) (by omega) (by omega) (by omega) (by omega) hb z
theorem follow_ok {k : Int} (h : St Dc Dm m) (hk : -2147483648 ≤ k ∧ k ≤ 2147483647) : Ok [(0, 1)] Dc Dm m (pH_follow k Dc) (pM_follow k Dm) := by
  rcases key_both h.1 hk with ⟨g, t, c0, c, d⟩ | ⟨g, c0, c, d⟩
  · obtain ⟨v, e1, e2⟩ := follow_loop (h.thr (x := 0)).1 4 fu fu k 0 (fu_gt (by decide)) (fu_gt (by decide)) (by omega) (by omega) g (th_thr t)
    refine Ok.same (v := v) h ?_ ?_
    · unfold pM_follow
      rw [d, bnd_ok]
      simp only [jnR]
      rw [w32_k1, if_neg (by decide), fails0, bnd_ok, w32_k0, if_pos rfl]
      exact e2
    · unfold pH_follow
      rw [c, bnd_ok]
      exact e1
  · refine Ok.err (v := 0) (e := 0) (x := 1) h (by decide) ?_ ?_
    · unfold pM_follow
      rw [d, bnd_ok]
      simp only [jnR]
      rw [w32_k0, if_pos rfl, failsP (by omega), bnd_ok, w32_k1, if_neg (by decide)]
    · unfold pH_follow
      rw [c, bnd_er]
end READS2
