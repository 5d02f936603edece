/-! the cells for an entry are wanted -/
section WANTFOR
variable {T : Int → Prop} {R S : Int → Int} {Dc Dm : DD}
theorem leafFor_det {D : DD} {k x L L' : Int} (h : pM_leafFor k x D = okR L D) (h' : pM_leafFor k x D = okR L' D) : L = L' := by
  have := h.symm.trans h'
  simp only [okR, Option.some.injEq, Prod.mk.injEq, Sum.inl.injEq] at this
  exact this.1
/-- a leaf for a new name, by what it is -/
theorem spot_L {k x : Int} (hk : 0 ≤ k ∧ k < 80) (hW : MW Dm k) (hx : 0 ≤ x ∧ x ≤ 9999) (hnew : ∀ j, 0 ≤ j → j < sm (mc Dm k) (Rz 240 42 Dm k) → mn_ Dm k j ≠ x) :
    ∃ L, pM_leafFor k x Dm = okR L Dm ∧ (0 ≤ L ∧ (L < Rz 240 42 Dm k ∨ L = 0)) ∧ ∀ y, 0 ≤ y → y < 80 → LF (mc Dm k) (mE Dm k) (Rz 240 42 Dm k) (rk x * 80 + y) L := by
  obtain ⟨L, l1, l2, l3, l4⟩ := leafFor_m hk hW hx
  exact ⟨L, l1, l2, fun y a b => (hW.spot hx ⟨a, b⟩ hnew ⟨l2, l3, l4⟩).1⟩
theorem isFull_m {k x n L : Int} (hk : 0 ≤ k ∧ k < 80) (hW : MW Dm k) (hn : Rz 240 42 Dm k = n) (hL : pM_leafFor k x Dm = okR L Dm) (hL0 : 0 ≤ L ∧ (L < n ∨ L = 0)) : pM_isFull k x Dm = okR (if n = 8 ∧ mc Dm k L = 4 then 1 else 0) Dm := by
  have n8 := hW.1
  have hc : 1 ≤ n → 0 ≤ mc Dm k L ∧ mc Dm k L ≤ 4 := fun q => by
    have := hW.2.1 L hL0.1 (by omega)
    omega
  unfold pM_isFull
  rw [isSplit_m hk hn (by omega) hL hL0 hc, bnd_ok]
  by_cases g : 1 ≤ n ∧ mc Dm k L = 4
  · rw [if_pos g, w32_k1, if_neg (by decide), rdA_R (by omega), hn, w32_of (by omega)]
    by_cases q : n = 8
    · rw [if_pos q, if_pos ⟨q, g.2⟩]
    · rw [if_neg q, if_neg (fun z => q z.1)]
  · rw [if_neg g, w32_k0, if_pos rfl, if_neg (by omega)]
theorem wantFor_both {k x y n L c : Int} {w : Int → Int} (h : T0 T R S Dc Dm) (hk : 0 ≤ k ∧ k < 80) (hT : T k) (hx : 0 ≤ x ∧ x ≤ 9999) (hy : 0 ≤ y ∧ y < 80) (hn : Rz 240 42 Dm k = n) (hlf : pM_leafFor k x Dm = okR L Dm) (hL0 : 0 ≤ L ∧ (L < n ∨ L = 0)) (hLF : LF (mc Dm k) (mE Dm k) n (rk x * 80 + y) L)
    (hWn : Wn Dc Dm c w) (hc : 0 ≤ c ∧ c ≤ 4) :
    (n = 8 ∧ mc Dm k L = 4 ∧ ∃ Dc', pL_wantFor (Rz 240 40 Dm k) (rk x * 80 + y) Dc = okR 0 Dc' ∧ Gc Dc Dc') ∨
    (¬ (n = 8 ∧ mc Dm k L = 4) ∧ ∃ Dc' Dm', pL_wantFor (Rz 240 40 Dm k) (rk x * 80 + y) Dc = okR 1 Dc' ∧ pM_wantsEntry k x Dm = okR 0 Dm' ∧ Gc Dc Dc' ∧ Gm Dm Dm' ∧
      ((n = 0 ∧ Wn Dc' Dm' (c + 1) (fun i => if i = c then 5 else w i)) ∨ (1 ≤ n ∧ mc Dm k L < 4 ∧ Wn Dc' Dm' c w) ∨ (n = 1 ∧ mc Dm k L = 4 ∧ Wn Dc' Dm' (c + 2) (fun i => if i = c + 1 then 5 else if i = c then 9 else w i)) ∨ (2 ≤ n ∧ n < 8 ∧ mc Dm k L = 4 ∧ Wn Dc' Dm' (c + 1) (fun i => if i = c then 5 else w i)))) := by
  have hKR := h.2.2.2.1 k hk.1 hk.2 hT
  obtain ⟨r1, r2, -, -, hLC, hW, -⟩ := id hKR
  rw [hn] at hLC
  have hTil := h.1.1
  have hsc := h.1.2.1
  have ht := hTil.1 (Rz 240 40 Dm k) (by omega)
  have n8 := hLC.1
  have hEb : ∀ j, 0 ≤ j → j < sm (mc Dm k) n → 0 ≤ mE Dm k j ∧ mE Dm k j ≤ 100000000 := fun j a b => hW.ebd a (by rw [hn]; exact b)
  have hX : 0 ≤ rk x * 80 + y ∧ rk x * 80 + y ≤ 100000000 := by have := rk_bd hx; omega
  obtain ⟨L', q1, q2⟩ := leafFor_c hLC hTil (by omega) (p := Rz 240 40 Dm k) (by omega) rfl hEb hX
  have eL := q2.uniq hLF
  subst eL
  have lc := leafCount_c hLC hTil (by omega) (p := Rz 240 40 Dm k) (by omega) rfl
  have hcL : 1 ≤ n → 1 ≤ mc Dm k L' ∧ mc Dm k L' ≤ 4 := fun q => hW.2.1 L' hL0.1 (by omega)
  have hsp := isSplit_m hk hn n8 hlf hL0 (fun q => by have := hcL q; omega)
  -- the class, by cases
  have cl : pL_wantFor (Rz 240 40 Dm k) (rk x * 80 + y) Dc = if 1 ≤ n ∧ mc Dm k L' < 4 then okR 1 Dc else okR (if n < 8 then 1 else 0) (pC_want 5 (if n = 1 then pC_want 9 Dc else Dc)) := by
    unfold pL_wantFor
    simp only [ltR, jnR, gD]
    rw [lc, q1, bnd_ok, w32_of (z := n) (by omega)]
    have tail : (if n = 1 then if n < 8 then okR 1 (pC_want 5 (pC_want 9 Dc)) else okR 0 (pC_want 5 (pC_want 9 Dc)) else if n < 8 then okR 1 (pC_want 5 Dc) else okR 0 (pC_want 5 Dc)) = okR (if n < 8 then 1 else 0) (pC_want 5 (if n = 1 then pC_want 9 Dc else Dc)) := by
      by_cases g : n = 1
      · rw [if_pos g, if_pos g, if_pos (by omega), if_pos (by omega)]
      · rw [if_neg g, if_neg g]
        split <;> rfl
    by_cases g : 0 < n
    · rw [if_pos g, leafNumbered_c hLC hTil (by omega) (by omega) rfl hL0.1 (by omega), itemCount_c hLC hTil (by omega) hL0.1 (by omega), w32_of (z := mc Dm k L') (by have := hcL g; omega)]
      by_cases g2 : mc Dm k L' < 4
      · rw [if_pos g2, if_pos ⟨by omega, g2⟩]
      · rw [if_neg g2, if_neg (show ¬ (1 ≤ n ∧ mc Dm k L' < 4) from fun z => g2 z.2)]
        exact tail
    · rw [if_neg g, if_neg (show ¬ (1 ≤ n ∧ mc Dm k L' < 4) from fun z => g (by omega))]
      exact tail
  have hsp0 : mc Dm k L' < 4 → pM_isSplit k x Dm = okR 0 Dm := fun z => by rw [hsp, if_neg (by omega)]
  have hsp1 : 1 ≤ n → mc Dm k L' = 4 → pM_isSplit k x Dm = okR 1 Dm := fun z z2 => by rw [hsp, if_pos ⟨z, z2⟩]
  by_cases g8 : n = 8 ∧ mc Dm k L' = 4
  · left
    obtain ⟨Dm1, k1, k2, k3, k4⟩ := want_both hWn ⟨hc.1, by omega⟩ (n := 5) (by omega)
    refine ⟨g8.1, g8.2, _, ?_, k2⟩
    rw [cl, if_neg (by omega), if_neg (by omega), if_neg (by omega)]
  · right
    refine ⟨g8, ?_⟩
    by_cases g0 : n = 0
    · obtain ⟨Dm1, k1, k2, k3, k4⟩ := want_both hWn ⟨hc.1, by omega⟩ (n := 5) (by omega)
      refine ⟨_, Dm1, ?_, ?_, k2, k3, Or.inl ⟨g0, k4⟩⟩
      · rw [cl, if_neg (by omega), if_pos (by omega), if_neg (by omega)]
      · unfold pM_wantsEntry
        rw [rdA_R (by omega), hn, g0, w32_k0, if_pos rfl, k1, bnd_ok]
    · have hm := hcL (by omega)
      by_cases g4 : mc Dm k L' < 4
      · refine ⟨Dc, Dm, ?_, ?_, Gc.rf _, Gm.rf _, Or.inr (Or.inl ⟨by omega, g4, hWn⟩)⟩
        · rw [cl, if_pos ⟨by omega, g4⟩]
        · unfold pM_wantsEntry
          rw [rdA_R (by omega), hn, w32_of (by omega), if_neg g0, hsp0 g4, bnd_ok, w32_k0, if_pos rfl]
      · by_cases g1 : n = 1
        · obtain ⟨Dm1, k1, k2, k3, k4⟩ := want_both hWn ⟨hc.1, by omega⟩ (n := 9) (by omega)
          obtain ⟨Dm2, l1, l2, l3, l4⟩ := want_both k4 ⟨by omega, by omega⟩ (n := 5) (by omega)
          refine ⟨_, Dm2, ?_, ?_, k2.trans l2, k3.trans l3, Or.inr (Or.inr (Or.inl ⟨g1, by omega, ?_⟩))⟩
          · rw [cl, if_neg (by omega), if_pos (by omega), if_pos g1]
          · unfold pM_wantsEntry
            simp only [jnR]
            rw [rdA_R (by omega), hn, w32_of (by omega), if_neg g0, hsp1 (by omega) (by omega), bnd_ok, w32_k1, if_neg (by decide), rdA_R (by omega), hn, w32_of (by omega), if_pos g1, k1, bnd_ok, l1, bnd_ok]
          · rw [show c + 2 = c + 1 + 1 by omega]
            exact l4
        · obtain ⟨Dm1, k1, k2, k3, k4⟩ := want_both hWn ⟨hc.1, by omega⟩ (n := 5) (by omega)
          refine ⟨_, Dm1, ?_, ?_, k2, k3, Or.inr (Or.inr (Or.inr ⟨by omega, by omega, by omega, k4⟩))⟩
          · rw [cl, if_neg (by omega), if_pos (by omega), if_neg g1]
          · unfold pM_wantsEntry
            simp only [jnR]
            rw [rdA_R (by omega), hn, w32_of (by omega), if_neg g0, hsp1 (by omega) (by omega), bnd_ok, w32_k1, if_neg (by decide), rdA_R (by omega), hn, w32_of (by omega), if_neg g1, k1, bnd_ok]
end WANTFOR
