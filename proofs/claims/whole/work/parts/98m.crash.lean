/-! write, crash -/
section CRASH
variable {Dc Dm : DD} {m n : Int}
/-- the flush is whole: class and reference -/
theorem ends_both {C M : DD} (h1 : Tr (cI 26 C) (mI 1 M)) : ∃ M', pM_ends M = okR 0 M' ∧ (∀ b, b ∉ [21, 22, 23, 24, 25, 20] → pF_endWhole C b = C b) ∧ pF_endWhole C 20 6 = 0 ∧ pF_endWhole C 20 5 = C 20 5 + 1 ∧ pF_endWhole C 20 4 = C 20 4 ∧ pF_endWhole C 20 3 = C 20 3 ∧ (∀ b, (b < 33 ∨ 57 < b) → b ≠ 32 → M' b = M b) ∧ (∀ j, j ≠ 32 → j ≠ 33 → M' 32 j = M 32 j) ∧ M' 32 32 = 0 ∧ M' 32 33 = M 32 33 + 1 ∧ (∀ a k, 33 ≤ a → a ≤ 57 → k < lenA a → mI 0 M' a k = mI 0 M a k) ∧ Tr (cI 21 (pF_endWhole C)) (mI 2 M') := by
  obtain ⟨⟨c1, c2, c3, c4⟩, c5, c6, c7, c8⟩ := cp_21_26 C
  have hE : pF_endWhole C = up2 (up2 (pI_copyFrom_21_26 C) 20 5 (C 20 5 + 1)) 20 6 0 := by
    unfold pF_endWhole
    simp only [gD]
    rw [c1 20 (by decide) (by decide) (by decide) (by decide) (by decide)]
  have o : ∀ b, b ≠ 20 → pF_endWhole C b = pI_copyFrom_21_26 C b := fun b hb => by rw [hE, up2_ot hb, up2_ot hb]
  obtain ⟨M1, hM1⟩ : ∃ M1, M1 = up2 (up2 M 32 32 0) 32 33 (M 32 33 + 1) := ⟨_, rfl⟩
  have g1 : ∀ b, b ≠ 32 → M1 b = M b := fun b hb => by rw [hM1, up2_ot hb, up2_ot hb]
  have e36 : ∀ k, k < 80 → M1 36 (1 * 80 + k) = 0 ∨ M1 36 (1 * 80 + k) = 1 := fun k hk => by
    rw [g1 36 (by decide)]
    exact m36 h1 k hk
  obtain ⟨M2, r1, r2, r3⟩ := copies_m (p := 1) (q := 2) (D := M1) (by decide) (by decide) (by decide) e36
  have base : ∀ b, 33 ≤ b → b ≤ 57 → M1 b = M b := fun b x y => g1 b (by omega)
  refine ⟨M2, ?_, fun b hb => ?_, ?_, ?_, ?_, ?_, fun b hb hb2 => by rw [r2 b hb, g1 b hb2], fun j j1 j2 => by rw [r2 32 (by decide), hM1, up2_nk j2, up2_nk j1], by rw [r2 32 (by decide), hM1, up2_nk (by decide), up2_eq], by rw [r2 32 (by decide), hM1, up2_eq], fun a k x y z => by rw [(copied (w := 0) (by decide) r3).1 a k x y z]; exact lr base 0 a k x y z, ?_⟩
  · unfold pM_ends
    simp only [gD]
    rw [up2_nk (by decide), ← hM1]
    refine (congrArg (fun r => bnd r _) r1).trans ?_
    rw [bnd_ok]
  · rw [o b (nin hb (by decide)), c1 b (nin hb (by decide)) (nin hb (by decide)) (nin hb (by decide)) (nin hb (by decide)) (nin hb (by decide))]
  · rw [hE, up2_eq]
  · rw [hE, up2_nk (by decide), up2_eq]
  · rw [hE, up2_nk (by decide), up2_nk (by decide), c1 20 (by decide) (by decide) (by decide) (by decide) (by decide)]
  · rw [hE, up2_nk (by decide), up2_nk (by decide), c1 20 (by decide) (by decide) (by decide) (by decide) (by decide)]
  · refine h1.pre (Dc' := cI 21 (pF_endWhole C)) ?_ ?_ (fun i => ?_) (fun i => ?_) (fun i => ?_) (fun i => ?_) (fun a k x y z => by rw [(copied (w := 0) (by decide) r3).2 a k x y z]; exact lr base 1 a k x y z)
    · show pF_endWhole C 21 4 = C 26 4
      rw [o 21 (by decide), c3]
    · show pF_endWhole C 21 5 = C 26 5
      rw [o 21 (by decide), c4]
    · show Rz 1024 22 (pF_endWhole C) i = Rz 1024 27 C i
      rw [R_cg (o 22 (by decide)), c5]
    · show Rz 1024 23 (pF_endWhole C) i = Rz 1024 28 C i
      rw [R_cg (o 23 (by decide)), c6]
    · show Rz 80 24 (pF_endWhole C) i = Rz 80 29 C i
      rw [R_cg (o 24 (by decide)), c7]
    · show Rz 256 25 (pF_endWhole C) i = Rz 256 30 C i
      rw [R_cg (o 25 (by decide)), c8]
theorem write_ok {p : Int} (h : St Dc Dm m) (hf : Fl Dc Dm n) (hn : n ≤ 700000) (hp : -2147483648 ≤ p ∧ p ≤ 2147483647) : OkF [(1, 1), (2, 2)] Dc Dm m n (pH_write p Dc) (pM_write p Dm) := by
  have hin : pM_isIn p 1 200 = if 1 ≤ p ∧ p ≤ 200 then 1 else 0 := isIn_m hp (by omega) (by omega)
  obtain ⟨⟨f1, f1'⟩, f2, f3, f4, f5⟩ := id hf
  by_cases q : 1 ≤ p ∧ p ≤ 200
  · by_cases r : Dm 32 32 = 0
    · refine Ok.okF (Ok.err (v := 0) (e := 2) (x := 2) h (by decide) ?_ ?_) hf
      · unfold pM_write
        simp only [jnR]
        rw [hin, if_pos q, if_neg (by decide), r, w32_k0, if_pos rfl, failsP (by omega), bnd_ok, w32_k1, if_neg (by decide)]
      · unfold pH_write
        simp only [jnR]
        rw [w32_of hp, if_neg (by omega), if_neg (by omega), f1, r, w32_k0, if_pos rfl]
    · have r1 : Dm 32 32 = 1 := by omega
      obtain ⟨g1, ⟨g2, g2'⟩, ⟨g3, g3', g3''⟩, g4⟩ := f5 r1
      obtain ⟨W, hW⟩ : ∃ W, Dm 32 34 = W := ⟨_, rfl⟩
      obtain ⟨S, hS⟩ : ∃ S, Dm 32 35 = S := ⟨_, rfl⟩
      obtain ⟨c, hc⟩ : ∃ c, Dm 32 33 = c := ⟨_, rfl⟩
      rw [hW] at g2 g2' g4
      rw [hS] at g3 g3' g3'' g4
      rw [hc] at f2
      -- how far it comes
      obtain ⟨W', hW'⟩ : ∃ W', W' = if W + p < 2 * S + 4 then W + p else 2 * S + 4 := ⟨_, rfl⟩
      have bW : 0 ≤ W' ∧ W' ≤ 2 * S + 4 ∧ W < W' := by
        rw [hW']
        split <;> omega
      obtain ⟨x2, hx2⟩ : ∃ x, x = if W' < S + 2 then 0 else c + 1 := ⟨_, rfl⟩
      -- the class, to the log
      obtain ⟨D3, hD3⟩ : ∃ D3, D3 = Tz 2 31 (up2 Dc 20 4 W') ((c + 1) % 2) x2 := ⟨_, rfl⟩
      have o3 : ∀ b, b ≠ 20 → b ≠ 31 → D3 b = Dc b := fun b h1 h2 => by rw [hD3, T_ot h2, up2_ot h1]
      have t20 : ∀ k, D3 20 k = up2 Dc 20 4 W' 20 k := fun k => by rw [hD3, T_ot (by decide)]
      have d3 : D3 20 3 = S ∧ D3 20 4 = W' ∧ D3 20 5 = c ∧ D3 20 6 = 1 := by
        rw [t20, t20, t20, t20]
        exact ⟨by rw [up2_nk (by decide)]; exact g3, up2_eq .., by rw [up2_nk (by decide)]; exact f2.1, by rw [up2_nk (by decide), f1, r1]⟩
      have wl3 : pF_writesLeft D3 = 2 * S + 4 - W' := by
        unfold pF_writesLeft
        rw [d3.1, d3.2.1]
      have adv : pF_advance p Dc = if 2 * S + 4 - W' = 0 then pF_endWhole D3 else D3 := by
        have l1 : pF_writesLeft Dc = 2 * S + 4 - W := by
          unfold pF_writesLeft
          rw [g3, g2]
        have l2 : Dc 20 4 + zmin p (2 * S + 4 - W) = W' := by
          unfold zmin
          rw [g2, w32_of (by omega), w32_of (by omega), hW']
          by_cases y : W + p < 2 * S + 4
          · rw [if_pos y, if_neg (by omega)]
          · rw [if_neg y]
            by_cases y2 : 2 * S + 4 - W < p
            · rw [if_pos y2]; omega
            · rw [if_neg y2]; omega
        have sl : pF_isSealed (up2 Dc 20 4 W') = if W' < S + 2 then 0 else 1 := by
          unfold pF_isSealed
          rw [up2_eq, up2_nk (by decide), g3, w32_of (by omega), w32_of (by omega)]
        have st : ∀ x, sto 2 31 (Int.tmod (w32 (c + 1)) 2) x (up2 Dc 20 4 W') = Tz 2 31 (up2 Dc 20 4 W') ((c + 1) % 2) x := fun x => by
          rw [w32_of (by omega), tmod_pos (by omega), sto_T (by omega)]
        have e5 : up2 Dc 20 4 W' 20 5 = c := by rw [up2_nk (by decide)]; exact f2.1
        unfold pF_advance
        simp only [gD, jnR, ltR]
        rw [l1, l2, e5, sl]
        by_cases y : W' < S + 2
        · rw [if_pos y] at hx2
          rw [hx2] at hD3
          rw [if_pos y, if_pos rfl, st, ← hD3, wl3, w32_of (by omega)]
        · rw [if_neg y] at hx2
          rw [hx2] at hD3
          rw [if_neg y, if_neg (by decide), st, ← hD3, wl3, w32_of (by omega)]
      -- the reference, to the log
      obtain ⟨E6, hE6⟩ : ∃ E6, E6 = Tz 2 64 (up2 (up2 Dm 32 42 0) 32 34 W') ((c + 1) % 2) x2 := ⟨_, rfl⟩
      have o6 : ∀ b, b ≠ 32 → b ≠ 64 → E6 b = Dm b := fun b h1 h2 => by rw [hE6, T_ot h2, up2_ot h1, up2_ot h1]
      have t32 : ∀ k, E6 32 k = up2 (up2 Dm 32 42 0) 32 34 W' 32 k := fun k => by rw [hE6, T_ot (by decide)]
      have d6 : E6 32 32 = 1 ∧ E6 32 33 = c ∧ E6 32 34 = W' ∧ E6 32 35 = S ∧ E6 32 42 = 0 ∧ E6 32 29 = Dm 32 29 := by
        rw [t32, t32, t32, t32, t32, t32]
        exact ⟨by rw [up2_nk (by decide), up2_nk (by decide), r1], by rw [up2_nk (by decide), up2_nk (by decide), hc], up2_eq .., by rw [up2_nk (by decide), up2_nk (by decide), hS], by rw [up2_nk (by decide), up2_eq], by rw [up2_nk (by decide), up2_nk (by decide)]⟩
      have md : pM_write p Dm = (fun (J4 : DD → Res) => if W' = 2 * S + 4 then (bnd (pM_ends E6) fun _ D8 => J4 D8) else J4 E6) (fun D7 => okR (2 * S + 4 - (D7 32 34)) D7) := by
        unfold pM_write
        simp only [jnR, ltR, gD]
        rw [hin, if_pos q, if_neg (by decide), r1, w32_k1, if_neg (by decide), fails0, bnd_ok, w32_k0, if_pos rfl, up2_nk (show (34 : Nat) ≠ 42 by decide), up2_nk (show (35 : Nat) ≠ 42 by decide), hW, hS, w32_of (z := W + p) (by omega), w32_of (z := 2 * S + 4) (by omega)]
        have tail : (if w32 (up2 (up2 Dm 32 42 0) 32 34 W' 32 34) < w32 (up2 (up2 Dm 32 42 0) 32 34 W' 32 35 + 2) then (wrA 2 64 (Int.tmod (w32 (up2 (up2 Dm 32 42 0) 32 34 W' 32 33 + 1)) 2) 0 (up2 (up2 Dm 32 42 0) 32 34 W') fun D6 => if w32 (D6 32 34) = 2 * S + 4 then (bnd (pM_ends D6) fun _ D8 => okR (2 * S + 4 - D8 32 34) D8) else okR (2 * S + 4 - D6 32 34) D6) else (wrA 2 64 (Int.tmod (w32 (up2 (up2 Dm 32 42 0) 32 34 W' 32 33 + 1)) 2) (up2 (up2 Dm 32 42 0) 32 34 W' 32 33 + 1) (up2 (up2 Dm 32 42 0) 32 34 W') fun D6 => if w32 (D6 32 34) = 2 * S + 4 then (bnd (pM_ends D6) fun _ D8 => okR (2 * S + 4 - D8 32 34) D8) else okR (2 * S + 4 - D6 32 34) D6)) = if W' = 2 * S + 4 then (bnd (pM_ends E6) fun _ D8 => okR (2 * S + 4 - D8 32 34) D8) else okR (2 * S + 4 - E6 32 34) E6 := by
          have e34 : up2 (up2 Dm 32 42 0) 32 34 W' 32 34 = W' := up2_eq ..
          have e35 : up2 (up2 Dm 32 42 0) 32 34 W' 32 35 = S := by rw [up2_nk (by decide), up2_nk (by decide), hS]
          have e33 : up2 (up2 Dm 32 42 0) 32 34 W' 32 33 = c := by rw [up2_nk (by decide), up2_nk (by decide), hc]
          rw [e34, e35, e33, w32_of (z := W') (by omega), w32_of (z := S + 2) (by omega), w32_of (z := c + 1) (by omega), tmod_pos (by omega)]
          by_cases y : W' < S + 2
          · rw [if_pos y] at hx2
            rw [hx2] at hE6
            rw [if_pos y, wrA_T (by omega), ← hE6, d6.2.2.1, w32_of (by omega)]
          · rw [if_neg y] at hx2
            rw [hx2] at hE6
            rw [if_neg y, wrA_T (by omega), ← hE6, d6.2.2.1, w32_of (by omega)]
        by_cases y : W + p < 2 * S + 4
        · rw [if_pos y] at hW' ⊢
          rw [← hW']
          exact tail
        · rw [if_neg y] at hW' ⊢
          rw [← hW']
          rw [← hW'] at tail
          exact tail
      -- states so far
      have hT3 : Tr D3 E6 := h.1.eqv (fun b x y => o3 b (by omega) (by omega)) (fun b x y => o6 b (by omega) (by omega))
      have hD3' : Dy D3 E6 := h.2.1.cong (by rw [o3 7 (by decide) (by decide)]) (o6 58 (by decide) (by decide))
      have hW3 : Wt D3 E6 (m + 80) := (h.2.2.1.cong (o3 16 (by decide) (by decide)) (o3 17 (by decide) (by decide)) (o3 18 (by decide) (by decide)) (o3 19 (by decide) (by decide)) (by rw [o3 15 (by decide) (by decide)]) (o6 59 (by decide) (by decide)) (o6 60 (by decide) (by decide)) (o6 61 (by decide) (by decide)) (o6 62 (by decide) (by decide)) (o6 63 (by decide) (by decide)) d6.2.2.2.2.2).mono (by omega)
      have lg : ∀ i, 0 ≤ i → i < 2 → Rz 2 31 D3 i = Rz 2 64 E6 i := fun i a b => by
        rw [hD3, hE6, R_T, R_T, R_up2_ot (by decide), R_up2_ot (by decide), R_up2_ot (by decide), f3 i a b]
      have i26 : Tr (cI 26 D3) (mI 1 E6) := by
        have e : cI 26 D3 = cI 26 Dc := by
          funext b
          unfold cI
          rw [o3 26 (by decide) (by decide), o3 27 (by decide) (by decide), o3 28 (by decide) (by decide), o3 29 (by decide) (by decide), o3 30 (by decide) (by decide)]
        rw [e]
        exact g1.mm (lr (fun b x y => o6 b (by omega) (by omega)) 1)
      have i21 : Tr (cI 21 D3) (mI 2 E6) := by
        have e : cI 21 D3 = cI 21 Dc := by
          funext b
          unfold cI
          rw [o3 21 (by decide) (by decide), o3 22 (by decide) (by decide), o3 23 (by decide) (by decide), o3 24 (by decide) (by decide), o3 25 (by decide) (by decide)]
        rw [e]
        exact f4.mm (lr (fun b x y => o6 b (by omega) (by omega)) 2)
      have cls : pH_write p Dc = okR (pF_writesLeft (pF_advance p Dc)) (pF_advance p Dc) := by
        unfold pH_write
        simp only [jnR, gD]
        rw [w32_of hp, if_neg (by omega), if_neg (by omega), f1, r1, w32_k1, if_neg (by decide)]
      by_cases fin : W' = 2 * S + 4
      · -- it is whole
        obtain ⟨E7, k1, k2, k3, k4, k5, k6, k7, k8, k9, k10, k11, k12⟩ := ends_both i26
        rw [if_pos (by omega)] at adv
        rw [adv] at cls
        simp only [if_pos fin] at md
        rw [k1, bnd_ok] at md
        have hT7 : Tr (pF_endWhole D3) E7 := by
          have t1 : Tr (pF_endWhole D3) E6 := hT3.eqv (fun b x y => k2 b (by simp only [List.mem_cons, List.not_mem_nil, or_false]; omega)) (fun _ _ _ => rfl)
          exact (t1.m0.mm k11).from0
        have a34 : E7 32 34 = W' := by rw [k8 34 (by decide) (by decide), d6.2.2.1]
        refine ⟨pF_endWhole D3, E7, 2 * S + 4 - W', by rw [md, a34], ⟨hT7, hD3'.cong (by rw [k2 7 (by decide)]) (k7 58 (by decide) (by decide)), hW3.cong (k2 16 (by decide)) (k2 17 (by decide)) (k2 18 (by decide)) (k2 19 (by decide)) (by rw [k2 15 (by decide)]) (k7 59 (by decide) (by decide)) (k7 60 (by decide) (by decide)) (k7 61 (by decide) (by decide)) (k7 62 (by decide) (by decide)) (k7 63 (by decide) (by decide)) (by rw [k8 29 (by decide) (by decide)])⟩, ⟨by rw [k3, k9]; exact ⟨rfl, Or.inl rfl⟩, by rw [k4, k10, d3.2.2.1, d6.2.1]; exact ⟨rfl, by omega, by omega⟩, fun i a b => by rw [R_cg (k2 31 (by decide)), R_cg (k7 64 (by decide) (by decide))]; exact lg i a b, k12, fun y => by rw [k9] at y; omega⟩, fun b hb => ?_, fun b hb => ?_, Or.inl ⟨?_, by rw [k8 42 (by decide) (by decide), d6.2.2.2.2.1]⟩⟩
        · rw [k2 b (by simp only [List.mem_cons, List.not_mem_nil, or_false]; omega), o3 b (by omega) (by omega)]
        · rw [k7 b (by omega) (by omega), o6 b (by omega) (by omega)]
        · rw [cls]
          unfold pF_writesLeft
          rw [k5, k6, d3.1, d3.2.1]
      · rw [if_neg (by omega)] at adv
        rw [adv, wl3] at cls
        simp only [if_neg fin] at md
        rw [d6.2.2.1] at md
        refine ⟨D3, E6, 2 * S + 4 - W', md, ⟨hT3, hD3', hW3⟩, ⟨by rw [d3.2.2.2, d6.1]; exact ⟨rfl, Or.inr rfl⟩, by rw [d3.2.2.1, d6.2.1]; exact ⟨rfl, by omega, by omega⟩, lg, i21, fun _ => ⟨i26, by rw [d3.2.1, d6.2.2.1]; exact ⟨rfl, bW.1⟩, by rw [d3.1, d6.2.2.2.1]; exact ⟨rfl, g3', g3''⟩, by rw [d6.2.2.1, d6.2.2.2.1]; omega⟩⟩, fun b hb => o3 b (by omega) (by omega), fun b hb => o6 b (by omega) (by omega), Or.inl ⟨cls, d6.2.2.2.2.1⟩⟩
  · refine Ok.okF (Ok.err (v := 0) (e := 1) (x := 1) h (by decide) ?_ ?_) hf
    · unfold pM_write
      simp only [jnR]
      rw [hin, if_neg q, if_pos rfl, failsP (by omega), bnd_ok, w32_k1, if_neg (by decide)]
    · unfold pH_write
      simp only [jnR]
      rw [w32_of hp]
      by_cases y : p < 1
      · rw [if_pos y]
      · rw [if_neg y, if_pos (by omega)]
theorem endAll_loop : ∀ (f : Nat) (a : Int) (D : DD), 0 ≤ a → a ≤ 80 → (80 - a).toNat < f → ∃ D', pW_endAll_2 f a D = okR 0 D' ∧ (∀ b, b ∉ [16, 17, 18, 19] → D' b = D b) ∧ ∀ b, b ∈ [16, 17, 18, 19] → ∀ u, Rz 80 b D' u = if a ≤ u ∧ u < 80 then 0 else Rz 80 b D u := by
  intro f
  induction f with
  | zero => intro a D h1 h2 h3; omega
  | succ f ih =>
    intro a D h1 h2 h3
    rw [pW_endAll_2, w32_of (z := a) (by omega)]
    by_cases z : a < 80
    · have e : pW_end a D = Tz 80 19 (Tz 80 18 (Tz 80 17 (Tz 80 16 D a 0) a 0) a 0) a 0 := by
        unfold pW_end pW_start
        simp only [gD, jnR]
        rw [w32_k0, if_pos rfl, sto_T (by omega), sto_T (by omega), sto_T (by omega), sto_T (by omega)]
      have eb : ∀ b, b ∈ [16, 17, 18, 19] → ∀ u, Rz 80 b (pW_end a D) u = if u = a then 0 else Rz 80 b D u := fun b hb u => by
        have hT : ∀ E : DD, Rz 80 b (Tz 80 b E a 0) u = if u = a then 0 else Rz 80 b E u := fun E => by
          rw [R_T]
          by_cases q : u = a
          · rw [if_pos ⟨by omega, q⟩, if_pos q]
          · rw [if_neg (fun y => q y.2), if_neg q]
        rw [e]
        simp only [List.mem_cons, List.not_mem_nil, or_false] at hb
        rcases hb with y | y | y | y
        · subst y; rw [R_T_ot (by decide), R_T_ot (by decide), R_T_ot (by decide), hT]
        · subst y; rw [R_T_ot (by decide), R_T_ot (by decide), hT, R_T_ot (by decide)]
        · subst y; rw [R_T_ot (by decide), hT, R_T_ot (by decide), R_T_ot (by decide)]
        · subst y; rw [hT, R_T_ot (by decide), R_T_ot (by decide), R_T_ot (by decide)]
      obtain ⟨D', k1, k2, k3⟩ := ih (a + 1) (pW_end a D) (by omega) (by omega) (by omega)
      refine ⟨D', ?_, fun b hb => ?_, fun b hb u => ?_⟩
      · rw [if_pos z]
        simp only [gD]
        exact k1
      · rw [k2 b hb, e, T_ot (nin hb (by decide)), T_ot (nin hb (by decide)), T_ot (nin hb (by decide)), T_ot (nin hb (by decide))]
      · rw [k3 b hb, eb b hb]
        by_cases y : u = a
        · rw [if_neg (by omega), if_pos y, if_pos (by omega)]
        · by_cases y2 : a + 1 ≤ u ∧ u < 80
          · rw [if_pos y2, if_pos (by omega)]
          · rw [if_neg y2, if_neg y, if_neg (by omega)]
    · exact ⟨D, by rw [if_neg z], fun _ _ => rfl, fun b _ u => by rw [if_neg (by omega)]⟩
theorem forget_loop : ∀ (f : Nat) (a : Int) (D : DD), 0 ≤ a → a ≤ 80 → (80 - a).toNat < f → ∃ D', (∀ K, pM_crash_51 f a D K = K D') ∧ (∀ b, b ∉ [59, 60, 61] → D' b = D b) ∧ ∀ b, b ∈ [59, 60, 61] → ∀ u, Rz 80 b D' u = if a ≤ u ∧ u < 80 then 0 else Rz 80 b D u := by
  intro f
  induction f with
  | zero => intro a D h1 h2 h3; omega
  | succ f ih =>
    intro a D h1 h2 h3
    by_cases z : a < 80
    · have eb : ∀ b, b ∈ [59, 60, 61] → ∀ u, Rz 80 b (Tz 80 61 (Tz 80 60 (Tz 80 59 D a 0) a 0) a 0) u = if u = a then 0 else Rz 80 b D u := fun b hb u => by
        have hT : ∀ E : DD, Rz 80 b (Tz 80 b E a 0) u = if u = a then 0 else Rz 80 b E u := fun E => by
          rw [R_T]
          by_cases q : u = a
          · rw [if_pos ⟨by omega, q⟩, if_pos q]
          · rw [if_neg (fun y => q y.2), if_neg q]
        simp only [List.mem_cons, List.not_mem_nil, or_false] at hb
        rcases hb with y | y | y
        · subst y; rw [R_T_ot (by decide), R_T_ot (by decide), hT]
        · subst y; rw [R_T_ot (by decide), hT, R_T_ot (by decide)]
        · subst y; rw [hT, R_T_ot (by decide), R_T_ot (by decide)]
      obtain ⟨D', k1, k2, k3⟩ := ih (a + 1) (Tz 80 61 (Tz 80 60 (Tz 80 59 D a 0) a 0) a 0) (by omega) (by omega) (by omega)
      refine ⟨D', fun K => ?_, fun b hb => ?_, fun b hb u => ?_⟩
      · rw [pM_crash_51, w32_of (z := a) (by omega), if_pos z, wrA_T (by omega), wrZ_T (by omega) (Or.inl rfl), wrZ_T (by omega) (Or.inl rfl)]
        exact k1 K
      · rw [k2 b hb, T_ot (nin hb (by decide)), T_ot (nin hb (by decide)), T_ot (nin hb (by decide))]
      · rw [k3 b hb, eb b hb]
        by_cases y : u = a
        · rw [if_neg (by omega), if_pos y, if_pos (by omega)]
        · by_cases y2 : a + 1 ≤ u ∧ u < 80
          · rw [if_pos y2, if_pos (by omega)]
          · rw [if_neg y2, if_neg y, if_neg (by omega)]
    · exact ⟨D, fun K => by rw [pM_crash_51, w32_of (z := a) (by omega), if_neg z], fun _ _ => rfl, fun b _ u => by rw [if_neg (by omega)]⟩
theorem crash_ok (h : St Dc Dm m) (hf : Fl Dc Dm n) (hn : n ≤ 700000) : OkF [] Dc Dm m n (pH_crash Dc) (pM_crash Dm) := by
  obtain ⟨⟨f1, f1'⟩, f2, f3, f4, f5⟩ := id hf
  -- the flush ends, whole or broken off
  obtain ⟨C1, M1, a1, a2, a3, a4, a5, a6, a7, a8, a9⟩ : ∃ C1 M1, pF_breakOff Dc = C1 ∧ (∀ J : DD → Res, (if (w32 ((up2 Dm 32 42 0) 32 32)) = 0 then J (up2 Dm 32 42 0) else (if (w32 ((up2 Dm 32 42 0) 32 34)) < (w32 (((up2 Dm 32 42 0) 32 35) + 2)) then J (up2 Dm 32 42 0) else (bnd (pM_ends (up2 Dm 32 42 0)) fun _ D8 => J D8))) = J M1) ∧ (∀ b, b ∉ [20, 21, 22, 23, 24, 25] → C1 b = Dc b) ∧ (∀ b, b < 32 ∨ 57 < b → M1 b = Dm b) ∧ (C1 20 6 = 0 ∧ C1 20 5 = M1 32 33 ∧ 0 ≤ M1 32 33 ∧ M1 32 33 ≤ n + 1) ∧ M1 32 42 = 0 ∧ (∀ j, j ≠ 32 → j ≠ 33 → j ≠ 42 → M1 32 j = Dm 32 j) ∧ Tr (cI 21 C1) (mI 2 M1) ∧ True := by
    have e32 : (up2 Dm 32 42 0) 32 32 = Dm 32 32 := up2_nk (by decide)
    have e34 : (up2 Dm 32 42 0) 32 34 = Dm 32 34 := up2_nk (by decide)
    have e35 : (up2 Dm 32 42 0) 32 35 = Dm 32 35 := up2_nk (by decide)
    have e33 : (up2 Dm 32 42 0) 32 33 = Dm 32 33 := up2_nk (by decide)
    rw [e32, e34, e35]
    have i21 : Tr (cI 21 (up2 Dc 20 6 0)) (mI 2 (up2 Dm 32 42 0)) := by
      have e : cI 21 (up2 Dc 20 6 0) = cI 21 Dc := by
        funext b
        unfold cI
        rw [up2_ot (by decide), up2_ot (by decide), up2_ot (by decide), up2_ot (by decide), up2_ot (by decide)]
      rw [e]
      exact f4.mm (lr (fun b x y => up2_ot (by omega)) 2)
    have brk : ∀ X : Prop, (pF_breakOff Dc = up2 Dc 20 6 0) → ∃ C1 M1, pF_breakOff Dc = C1 ∧ M1 = up2 Dm 32 42 0 ∧ (∀ b, b ∉ [20, 21, 22, 23, 24, 25] → C1 b = Dc b) ∧ (∀ b, b < 32 ∨ 57 < b → M1 b = Dm b) ∧ (C1 20 6 = 0 ∧ C1 20 5 = M1 32 33 ∧ 0 ≤ M1 32 33 ∧ M1 32 33 ≤ n + 1) ∧ M1 32 42 = 0 ∧ (∀ j, j ≠ 32 → j ≠ 33 → j ≠ 42 → M1 32 j = Dm 32 j) ∧ Tr (cI 21 C1) (mI 2 M1) ∧ True := fun _ e =>
      ⟨up2 Dc 20 6 0, _, e, rfl, fun b hb => up2_ot (nin hb (by decide)), fun b hb => up2_ot (by omega), ⟨up2_eq .., by rw [up2_nk (by decide), e33]; exact f2.1, by rw [e33]; exact f2.2.1, by rw [e33]; omega⟩, up2_eq .., fun j j1 j2 j3 => up2_nk j3, i21, trivial⟩
    rcases f1' with r | r
    · have e : pF_breakOff Dc = up2 Dc 20 6 0 := by
        unfold pF_breakOff
        simp only [jnR, gD]
        rw [f1, r, w32_k0, if_pos rfl]
      obtain ⟨C1, M1, b1, b2, b3⟩ := brk True e
      exact ⟨C1, M1, b1, fun J => by rw [r, w32_k0, if_pos rfl, b2], b3⟩
    · obtain ⟨g1, ⟨g2, g2'⟩, ⟨g3, g3', g3''⟩, g4⟩ := f5 r
      have sl : pF_isSealed Dc = if Dm 32 34 < Dm 32 35 + 2 then 0 else 1 := by
        unfold pF_isSealed
        rw [g2, g3, w32_of (by omega), w32_of (by omega)]
      by_cases y : Dm 32 34 < Dm 32 35 + 2
      · have e : pF_breakOff Dc = up2 Dc 20 6 0 := by
          unfold pF_breakOff
          simp only [jnR, gD]
          rw [f1, r, w32_k1, if_neg (by decide), sl, if_pos y, if_pos rfl]
        obtain ⟨C1, M1, b1, b2, b3⟩ := brk True e
        exact ⟨C1, M1, b1, fun J => by rw [r, w32_k1, if_neg (by decide), w32_of (z := Dm 32 34) (by omega), w32_of (z := Dm 32 35 + 2) (by omega), if_pos y, b2], b3⟩
      · have g1' : Tr (cI 26 Dc) (mI 1 (up2 Dm 32 42 0)) := g1.mm (lr (fun b x y => up2_ot (by omega)) 1)
        obtain ⟨E7, k1, k2, k3, k4, k5, k6, k7, k8, k9, k10, k11, k12⟩ := ends_both g1'
        refine ⟨up2 (pF_endWhole Dc) 20 6 0, E7, ?_, fun J => ?_, fun b hb => ?_, fun b hb => ?_, ⟨up2_eq .., ?_, ?_, ?_⟩, ?_, fun j j1 j2 j3 => ?_, ?_, trivial⟩
        · unfold pF_breakOff
          simp only [jnR, gD]
          rw [f1, r, w32_k1, if_neg (by decide), sl, if_neg y, if_neg (by decide)]
        · rw [r, w32_k1, if_neg (by decide), w32_of (z := Dm 32 34) (by omega), w32_of (z := Dm 32 35 + 2) (by omega), if_neg y, k1, bnd_ok]
        · rw [up2_ot (nin hb (by decide)), k2 b (fun z => hb (by simp only [List.mem_cons, List.not_mem_nil, or_false] at z ⊢; omega))]
        · rw [k7 b (by omega) (by omega), up2_ot (by omega)]
        · rw [up2_nk (by decide), k4, k10, e33, f2.1]
        · rw [k10, e33]; omega
        · rw [k10, e33]; omega
        · rw [k8 42 (by decide) (by decide), up2_eq]
        · rw [k8 j j1 j2, up2_nk j3]
        · have e : cI 21 (up2 (pF_endWhole Dc) 20 6 0) = cI 21 (pF_endWhole Dc) := by
            funext b
            unfold cI
            rw [up2_ot (by decide), up2_ot (by decide), up2_ot (by decide), up2_ot (by decide), up2_ot (by decide)]
          rw [e]
          exact k12
  -- the image is brought back
  obtain ⟨⟨c1, c2, c3, c4⟩, c5, c6, c7, c8⟩ := cp_2_21 C1
  obtain ⟨C2, hC2⟩ : ∃ C2, pI_copyFrom_2_21 C1 = C2 := ⟨_, rfl⟩
  rw [hC2] at c1 c2 c3 c4 c5 c6 c7 c8
  obtain ⟨C4, b1, b2, b3⟩ := endAll_loop fu 0 (up2 C2 7 5 0) (Int.le_refl _) (by omega) (fu_gt (by omega))
  have oc : ∀ b, b ∉ [2, 3, 4, 5, 6, 7, 16, 17, 18, 19, 20, 21, 22, 23, 24, 25] → C4 b = Dc b := fun b hb => by
    rw [b2 b (nsub hb (by decide)), up2_ot (nin hb (by decide)), c1 b (nin hb (by decide)) (nin hb (by decide)) (nin hb (by decide)) (nin hb (by decide)) (nin hb (by decide)), a3 b (nsub hb (by decide))]
  have o4 : ∀ b, b ∉ [7, 16, 17, 18, 19] → C4 b = C2 b := fun b hb => by rw [b2 b (nsub hb (by decide)), up2_ot (nin hb (by decide))]
  -- the reference
  obtain ⟨M2, hM2⟩ : ∃ M2, M2 = up2 M1 32 32 0 := ⟨_, rfl⟩
  have g2 : ∀ b, b ≠ 32 → M2 b = M1 b := fun b hb => by rw [hM2, up2_ot hb]
  have e36 : ∀ k, k < 80 → M2 36 (2 * 80 + k) = 0 ∨ M2 36 (2 * 80 + k) = 1 := fun k hk => by
    rw [g2 36 (by decide)]
    exact m36 a8 k hk
  obtain ⟨M3, r1, r2, r3⟩ := copies_m (p := 2) (q := 0) (D := M2) (by decide) (by decide) (by decide) e36
  obtain ⟨M4, k1, k2, k3⟩ := cleans_m M3
  obtain ⟨M7, l1, l2, l3⟩ := forget_loop fu 0 (up2 M4 32 29 0) (Int.le_refl _) (by omega) (fu_gt (by omega))
  have base : ∀ b, 33 ≤ b → b ≤ 57 → M2 b = M1 b := fun b x y => g2 b (by omega)
  have b7 : ∀ b, 33 ≤ b → b ≤ 57 → M7 b = M3 b := fun b x y => by rw [l2 b (by simp only [List.mem_cons, List.not_mem_nil, or_false]; omega), up2_ot (by omega), k2 b (by omega)]
  have om : ∀ b, (b < 32 ∨ 63 < b) → M7 b = Dm b := fun b hb => by rw [l2 b (by simp only [List.mem_cons, List.not_mem_nil, or_false]; omega), up2_ot (by omega), k2 b (by omega), r2 b (by omega), g2 b (by omega), a4 b (by omega)]
  have w32e : ∀ j, M7 32 j = up2 (up2 M1 32 32 0) 32 29 0 32 j := fun j => by
    rw [l2 32 (by decide)]
    by_cases y : j = 29
    · rw [y, up2_eq, up2_eq]
    · rw [up2_nk y, k2 32 (by decide), r2 32 (by decide), hM2, up2_nk (j := j) y]
  have e7 : M7 32 32 = 0 ∧ M7 32 33 = M1 32 33 ∧ M7 32 42 = 0 ∧ M7 32 29 = 0 := by
    rw [w32e, w32e, w32e, w32e]
    exact ⟨by rw [up2_nk (by decide), up2_eq], by rw [up2_nk (by decide), up2_nk (by decide)], by rw [up2_nk (by decide), up2_nk (by decide), a6], up2_eq ..⟩
  have hT : Tr C4 M7 := by
    have t1 : Tr C4 (mI 0 M7) := a8.pre (Dc' := C4) (by rw [o4 2 (by decide), c3]; rfl) (by rw [o4 2 (by decide), c4]; rfl) (fun i => by rw [R_cg (o4 3 (by decide)), c5]; rfl) (fun i => by rw [R_cg (o4 4 (by decide)), c6]; rfl) (fun i => by rw [R_cg (o4 5 (by decide)), c7]; rfl) (fun i => by rw [R_cg (o4 6 (by decide)), c8]; rfl) (fun a k x y z => by
      rw [lr b7 0 a k x y z, (copied (w := 1) (by decide) r3).2 a k x y z]
      exact lr base 2 a k x y z)
    exact t1.from0
  have z4 : ∀ b, b ∈ [16, 17, 18, 19] → ∀ u, 0 ≤ u → u < 80 → Rz 80 b C4 u = 0 := fun b hb u x y => by rw [b3 b hb, if_pos ⟨x, y⟩]
  have z7 : ∀ b, b ∈ [59, 60, 61] → ∀ u, 0 ≤ u → u < 80 → Rz 80 b M7 u = 0 := fun b hb u x y => by rw [l3 b hb, if_pos ⟨x, y⟩]
  have e15 : C4 15 4 = Dc 15 4 := by rw [oc 15 (by decide)]
  have cls : pH_crash Dc = okR (M1 32 33) C4 := by
    unfold pH_crash pF_restoreWhole pC_forgetDirty pW_endAll
    simp only [gD]
    rw [a1, hC2, b1, bnd_ok]
    congr 1
    rw [o4 20 (by decide), c1 20 (by decide) (by decide) (by decide) (by decide) (by decide), a5.2.1]
  have md : pM_crash Dm = okR (M1 32 33) M7 := by
    unfold pM_crash
    simp only [jnR, gD]
    refine (a2 (fun D2 => bnd (pM_copies 2 0 (up2 D2 32 32 0)) fun _ D4 => bnd (pM_cleans D4) fun _ D5 => pM_crash_51 fu 0 (up2 D5 32 29 0) fun D7 => okR (D7 32 33) D7)).trans ?_
    rw [← hM2]
    refine (congrArg (fun r => bnd r _) r1).trans ?_
    rw [bnd_ok, k1, bnd_ok, l1, e7.2.1]
  refine ⟨C4, M7, M1 32 33, md, ⟨hT, fun t a b => ?_, ⟨fun k a b => ?_, ?_, ?_, fun i a b => ?_, fun i j a b c => ?_, fun k a b c => ?_⟩⟩, ⟨?_, ?_, fun i a b => ?_, ?_, fun y => ?_⟩, fun b hb => ?_, fun b hb => om b (by omega), Or.inl ⟨cls, e7.2.2.1⟩⟩
  · have e1 : C4 7 5 = 0 := by rw [b2 7 (by decide), up2_eq]
    have e2 : Rz 64 58 M7 t = 0 := by rw [R_cg (l2 58 (by decide)), R_up2_ot (by decide), k3 t a b]
    rw [e1, e2, bit_0, w32_k0]
    exact ⟨fun y => Bool.noConfusion y, fun y => absurd rfl y⟩
  · rw [z4 16 (by decide) k a b, z4 17 (by decide) k a b, z4 18 (by decide) k a b, z4 19 (by decide) k a b, z7 59 (by decide) k a b, z7 60 (by decide) k a b, z7 61 (by decide) k a b, e15]
    have := h.2.2.1.2.1.1
    exact ⟨⟨rfl, by omega, by omega⟩, ⟨rfl, Or.inl rfl⟩, Or.inl ⟨rfl, rfl, rfl⟩, by omega, by omega⟩
  · rw [e15]
    have := h.2.2.1.2.1
    exact ⟨this.1, by omega⟩
  · rw [e7.2.2.2]
    refine ⟨Int.le_refl _, ?_⟩
    have s := sm_bd (f := tmF C4) (b := 0) (by decide) 80 80 rfl (fun k a b => by
      unfold tmF
      rw [z4 19 (by decide) k a b, if_pos rfl]
      omega)
    omega
  · rw [e7.2.2.2] at b; omega
  · rw [e7.2.2.2] at c; omega
  · exact absurd (z4 19 (by decide) k a b) c
  · rw [e7.1, o4 20 (by decide), c1 20 (by decide) (by decide) (by decide) (by decide) (by decide), a5.1]
    exact ⟨rfl, Or.inl rfl⟩
  · rw [e7.2.1, o4 20 (by decide), c1 20 (by decide) (by decide) (by decide) (by decide) (by decide), a5.2.1]
    exact ⟨rfl, a5.2.2.1, a5.2.2.2⟩
  · rw [R_cg (oc 31 (by decide)), R_cg (om 64 (by decide))]
    exact f3 i a b
  · have e : cI 21 C4 = cI 21 C1 := by
      funext b
      unfold cI
      have q : ∀ b, b ∈ [21, 22, 23, 24, 25] → C4 b = C1 b := fun b hb => by
        simp only [List.mem_cons, List.not_mem_nil, or_false] at hb
        rw [o4 b (by simp only [List.mem_cons, List.not_mem_nil, or_false]; omega), c1 b (by omega) (by omega) (by omega) (by omega) (by omega)]
      rw [q 21 (by decide), q 22 (by decide), q 23 (by decide), q 24 (by decide), q 25 (by decide)]
    rw [e]
    exact a8.mm (fun a k x y z => by
      rw [lr b7 2 a k x y z, (copied (w := 2) (by decide) r3).1 a k x y z]
      exact lr base 2 a k x y z)
  · rw [e7.1] at y; omega
  · exact oc b (by simp only [List.mem_cons, List.not_mem_nil, or_false]; omega)
end CRASH
