/-! a cell is given back, side by side -/
theorem Til.nxt {s : Int → Int} {e p : Int} (h : Til s e) (hp : 0 < s p) : p + s p ≤ e := (h.1 p (by omega)).2.1
theorem give_both {Dc Dm : DD} {p n : Int} (hC : CR Dc Dm) (hn : Rz 1024 3 Dc p = n) (h1 : 1 ≤ n) :
    ∃ Dc' Dm', pC_giveBack p Dc = okR n Dc' ∧ pM_gives p Dm = okR 0 Dm' ∧ CR Dc' Dm' ∧ (∀ b, b ∉ [3, 7] → Dc' b = Dc b) ∧ (∀ k, k ≠ 5 → Dc' 7 k = Dc 7 k) ∧ (∀ b, b ∉ [32, 33, 58] → Dm' b = Dm b) ∧ (∀ k, k ≠ 41 → Dm' 32 k = Dm 32 k) ∧ Dm' 32 41 = Dm 32 41 + n ∧ HiEq Dm Dm' ∧
      (∀ u, u ≠ p → 0 < Rz 1024 3 Dc u → Rz 1024 3 Dc' u = Rz 1024 3 Dc u) ∧
      (∀ t, 0 ≤ t → t < 64 → (bit (Dc' 7 5) t = true ↔ bit (Dc 7 5) t = true ∨ sec p n t)) ∧ (∀ t, 0 ≤ t → t < 64 → (w32 (Rz 64 58 Dm' t) ≠ 0 ↔ w32 (Rz 64 58 Dm t) ≠ 0 ∨ sec p n t)) ∧ Rz 1024 3 Dc' p ≤ 0 := by
  obtain ⟨hT, hsc, hm, hs⟩ := id hC
  have hp4 := hT.in (u := p) (by omega) (by omega)
  have hnx := hT.nxt (p := p) (by omega)
  rw [hn] at hnx
  have bdn := hT.bd (by omega) (p + n)
  obtain ⟨Dc1, c1, c2⟩ := mark_class (D := Dc) hn h1 (by omega) (by omega)
  obtain ⟨Dm1, m1, m2⟩ := mark_model (D := Dm) (p := p) (n := n) (by rw [hs p (by omega) (by omega), hn]) h1 (by omega) (by omega)
  have e3 : ∀ u, Rz 1024 3 Dc1 u = Rz 1024 3 Dc u := fun u => R_cg (c2.1 3 (by decide)) u
  have e33 : ∀ u, 0 ≤ u → u < 1024 → Rz 3072 33 Dm1 u = Rz 1024 3 Dc u := fun u a b => by rw [R_cg (m2.1 33 (by decide)), hs u a b]
  -- the sizes once the part behind has gone in
  obtain ⟨f, s1, hf, hs1, hfb, hs1p, hs1l, hs1b⟩ : ∃ (f : Int) (s1 : Int → Int), f = (if Rz 1024 3 Dc (p + n) < 0 then n - Rz 1024 3 Dc (p + n) else n) ∧ s1 = (if Rz 1024 3 Dc (p + n) < 0 then uI (Rz 1024 3 Dc) (p + n) 0 else Rz 1024 3 Dc) ∧ (1 ≤ f ∧ f ≤ 300000) ∧ s1 p = n ∧ (∀ v, v < p → s1 v = Rz 1024 3 Dc v) ∧ ∀ v, -100000 ≤ s1 v ∧ s1 v ≤ 100000 := by
    refine ⟨_, _, rfl, rfl, ?_, ?_, fun v hv => ?_, fun v => ?_⟩
    · split <;> omega
    · split
      · rw [uI_ne (by omega), hn]
      · exact hn
    · split
      · rw [uI_ne (by omega)]
      · rfl
    · have b1 := hT.bd (by omega) v
      split
      · unfold uI
        split
        · omega
        · exact b1
      · exact b1
  obtain ⟨v, r, a1, a2, a3, a4, a5⟩ : ∃ v r, (∀ D, (∀ u, Rz 1024 3 D u = s1 u) → pC_cellAhead p D = okR v D) ∧ (∀ D, (∀ u, 0 ≤ u → u < p → Rz 3072 33 D u = s1 u) → pM_freeAhead p D = okR r D) ∧ AH (Rz 1024 3 Dc) p r ∧ (0 ≤ v ∧ v < p) ∧ ((Rz 1024 3 Dc v < 0 ∧ v = r) ∨ (0 ≤ Rz 1024 3 Dc v ∧ r = -1)) := by
    have key := fun (D : DD) (hD : ∀ u, Rz 1024 3 D u = s1 u) => ah_class (D := D) (s := Rz 1024 3 Dc) (e := 16 * Dc 2 4) (p := p) (by omega) hT (fun w hw => by rw [hD, hs1l w hw]) (by omega) (by omega) (Or.inr (by omega))
    obtain ⟨r, b1, b2⟩ : ∃ r, AH (Rz 1024 3 Dc) p r ∧ ∀ D, (∀ u, 0 ≤ u → u < p → Rz 3072 33 D u = s1 u) → pM_freeAhead p D = okR r D := by
      obtain ⟨v0, r0, -, q0, -, -⟩ := ah_class (D := Dc) (s := Rz 1024 3 Dc) (e := 16 * Dc 2 4) (p := p) (by omega) hT (fun _ _ => rfl) (by omega) (by omega) (Or.inr (by omega))
      refine ⟨r0, q0, fun D hD => ?_⟩
      obtain ⟨r1, g1, g2⟩ := mah_loop (D := D) (s := Rz 1024 3 Dc) (p := p) (by omega) (fun k x y => by rw [hD k x y, hs1l k y]) (fun k => hT.bd (by omega) k) fu (-1) 0 (by omega) (by omega) (fu_gt (by omega)) (Or.inl ⟨rfl, fun k a b => by omega⟩)
      have g3 : AH (Rz 1024 3 Dc) p r1 := by
        rcases g2 with ⟨x1, x2⟩ | ⟨x1, x2, x3, x4⟩
        · refine Or.inl ⟨x1, fun k hk => ?_⟩
          have := hT.1 k (by omega)
          exact x2 k (by omega) (by omega) hk
        · exact Or.inr ⟨(hT.1 r1 (by omega)).1, x2, x3, x4⟩
      rw [q0.uniq hT g3]
      exact g1
    obtain ⟨v, hv⟩ : ∃ v, ∀ D, (∀ u, Rz 1024 3 D u = s1 u) → pC_cellAhead p D = okR v D ∧ (0 ≤ v ∧ v < p) ∧ ((Rz 1024 3 Dc v < 0 ∧ v = r) ∨ (0 ≤ Rz 1024 3 Dc v ∧ r = -1)) := by
      -- one answer for all such cells
      have one : ∀ D D' : DD, (∀ u, Rz 1024 3 D u = s1 u) → (∀ u, Rz 1024 3 D' u = s1 u) → ∀ (g : Nat) (u : Int) (w : Int), -1 ≤ u → u ≤ 1024 → pC_cellAhead_4 g u D = okR w D → pC_cellAhead_4 g u D' = okR w D' := by
        intro D D' hD hD' g
        induction g with
        | zero => intro u w _ _ h; cases h
        | succ g ih =>
          intro u w q1 q2 h
          rw [pC_cellAhead_4, w32_of (z := u) (by omega), rd_R (by omega)] at h ⊢
          rw [hD'] 
          rw [hD] at h
          by_cases z : u < 4
          · rw [if_pos z] at h ⊢
            cases h
            rfl
          · rw [if_neg z] at h ⊢
            by_cases z2 : w32 (s1 u) = 0
            · rw [if_pos z2] at h ⊢
              exact ih _ _ (by omega) (by omega) h
            · rw [if_neg z2] at h ⊢
              cases h
              rfl
      have ex : ∃ D : DD, ∀ u, Rz 1024 3 D u = s1 u := by
        refine ⟨fun _ k => s1 (k : Int), fun u => ?_⟩
        unfold Rz
        split
        · rename_i hu0
          show s1 ((u.toNat : Nat) : Int) = s1 u
          rw [Int.toNat_of_nonneg hu0.1]
        · have : Rz 1024 3 Dc u = 0 := R_out (by omega)
          rw [hs1]
          split
          · unfold uI
            split
            · rfl
            · exact this.symm
          · exact this.symm
      obtain ⟨D0, hD0⟩ := ex
      obtain ⟨v0, r0, x1, x2, x3, x4⟩ := key D0 hD0
      have := x2.uniq hT b1
      subst this
      refine ⟨v0, fun D hD => ⟨?_, x3, x4⟩⟩
      unfold pC_cellAhead at x1 ⊢
      simp only [ltR] at x1 ⊢
      exact one D0 D hD0 hD fu (p - 1) v0 (by omega) (by omega) x1
    have ⟨D0, hD0⟩ : ∃ D : DD, ∀ u, Rz 1024 3 D u = s1 u := by
      by_cases g : Rz 1024 3 Dc (p + n) < 0
      · refine ⟨Tz 1024 3 Dc (p + n) 0, fun u => ?_⟩
        have g1024 : p + n < 1024 := Int.not_le.mp fun z => by rw [R_out (Or.inr z)] at g; omega
        rw [hs1, if_pos g, R_uI ⟨by omega, g1024⟩]
      · exact ⟨Dc, fun u => by rw [hs1, if_neg g]⟩
    exact ⟨v, r, fun D hD => (hv D hD).1, b2, b1, (hv D0 hD0).2.1, (hv D0 hD0).2.2⟩
  have hgv := hT.give (p := p) (r := r) (by omega) a3
  have hgu := fun u => gvn_used (s := Rz 1024 3 Dc) (p := p) a3 (u := u)
  -- the ends
  have fin : ∀ Ec Em : DD, (∀ u, Rz 1024 3 Ec u = gvn (Rz 1024 3 Dc) p r u) → (∀ u, 0 ≤ u → u < 1024 → Rz 3072 33 Em u = gvn (Rz 1024 3 Dc) p r u) → (∀ b, b ≠ 3 → Ec b = Dc1 b) → (∀ b, b ≠ 33 → b ≠ 32 → Em b = Dm1 b) → (∀ k, k ≠ 41 → Em 32 k = Dm1 32 k) → Em 32 41 = Dm1 32 41 + n → HiEq Dm1 Em →
      CR Ec Em ∧ (∀ b, b ∉ [3, 7] → Ec b = Dc b) ∧ (∀ k, k ≠ 5 → Ec 7 k = Dc 7 k) ∧ (∀ b, b ∉ [32, 33, 58] → Em b = Dm b) ∧ (∀ k, k ≠ 41 → Em 32 k = Dm 32 k) ∧ Em 32 41 = Dm 32 41 + n ∧ HiEq Dm Em ∧
      (∀ u, u ≠ p → 0 < Rz 1024 3 Dc u → Rz 1024 3 Ec u = Rz 1024 3 Dc u) ∧
      (∀ t, 0 ≤ t → t < 64 → (bit (Ec 7 5) t = true ↔ bit (Dc 7 5) t = true ∨ sec p n t)) ∧ (∀ t, 0 ≤ t → t < 64 → (w32 (Rz 64 58 Em t) ≠ 0 ↔ w32 (Rz 64 58 Dm t) ≠ 0 ∨ sec p n t)) ∧ Rz 1024 3 Ec p ≤ 0 := by
    intro Ec Em d1 d2 d3 d4 d5 d6 d7
    have ec2 : Ec 2 = Dc 2 := (d3 2 (by decide)).trans (c2.1 2 (by decide))
    have ec7 : Ec 7 = Dc1 7 := d3 7 (by decide)
    have em34 : Em 34 = Dm 34 := (d4 34 (by decide) (by decide)).trans (m2.1 34 (by decide))
    refine ⟨⟨?_, ?_, ?_, fun u a b => ?_⟩, fun b hb => ?_, fun k hk => ?_, fun b hb => ?_, fun k hk => ?_, ?_, ?_, fun u q1 q2 => ?_, fun t q1 q2 => ?_, fun t q1 q2 => ?_, ?_⟩
    · rw [ec2]; exact hgv.cong d1
    · rw [ec2]; exact hsc
    · rw [em34, ec2]; exact hm
    · rw [d1, d2 u a b]
    · rw [d3 b (nin hb (by decide)), c2.1 b (nin hb (by decide))]
    · rw [ec7, c2.2.1 k hk]
    · rw [d4 b (nin hb (by decide)) (nin hb (by decide)), m2.1 b (nin hb (by decide))]
    · rw [d5 k hk, m2.1 32 (by decide)]
    · rw [d6, m2.1 32 (by decide)]
    · exact (HiEq.ot (fun b _ _ => m2.1 b (by omega))).trans d7
    · rw [d1]; exact hgu u q2 q1
    · rw [ec7]; exact c2.2.2 t q1 q2
    · rw [R_cg (d4 58 (by decide) (by decide))]; exact m2.2 t q1 q2
    · rw [d1]
      unfold gvn
      rw [hn, ← hs1, ← hf]
      rcases a3 with ⟨x1, x2⟩ | ⟨x1, x2, x3, x4⟩
      · rw [if_pos x1, uI_eq]; omega
      · rw [if_neg (show ¬ r = -1 by omega), uI_ne (by omega), uI_eq]; omega
  unfold pC_giveBack pM_gives pM_units
  simp only [ltR, jnR, gD]
  rw [c1, m1]
  simp only [bnd_ok]
  rw [rdA_R ⟨by omega, by omega, by decide⟩, rdA_R ⟨by omega, by omega, by decide⟩, R_up2_ot (by decide), e33 p (by omega) (by omega), hn, wrA_T ⟨by omega, by omega, by decide⟩]
  have e34 : (Tz 3072 33 (up2 Dm1 32 41 (Dm1 32 41 + n)) p (-n)) 34 0 = Dc 2 4 := by rw [T_ot (by decide), up2_ot (by decide), m2.1 34 (by decide), hm]
  rw [e34, rd_R (i := p) (by omega), e3, hn, rd_R (i := p + n) (by omega), e3, w32_of (z := Rz 1024 3 Dc (p + n)) (by omega), w32_of (z := p + n) (by omega), w32_of (z := 16 * Dc 2 4) (by omega)]
  -- behind the first part
  have cls : ∀ D2 : DD, (∀ u, Rz 1024 3 D2 u = s1 u) → (∀ b, b ≠ 3 → D2 b = Dc1 b) →
      ∃ Ec, (bnd (pC_cellAhead p D2) fun v1 D3 => if w32 (rd 1024 3 v1 D3) < 0 then okR n (sto 1024 3 v1 (-(f - rd 1024 3 v1 D3)) (sto 1024 3 p 0 D3)) else okR n (sto 1024 3 p (-f) D3)) = okR n Ec ∧ (∀ u, Rz 1024 3 Ec u = gvn (Rz 1024 3 Dc) p r u) ∧ (∀ b, b ≠ 3 → Ec b = Dc1 b) := by
    intro D2 d1 d2
    have bv := hT.bd (by omega) v
    rw [a1 D2 d1, bnd_ok, rd_R (by omega), d1 v, hs1l v a4.2, w32_of (z := Rz 1024 3 Dc v) (by omega), sto_T (by omega), sto_T (by omega), sto_T (by omega)]
    rcases a5 with ⟨x1, x2⟩ | ⟨x1, x2⟩
    · rw [if_pos x1]
      refine ⟨_, rfl, fun u => ?_, fun b hb => by rw [T_ot hb, T_ot hb, d2 b hb]⟩
      rw [R_uI ⟨by omega, by omega⟩, R_uI ⟨by omega, by omega⟩]
      unfold gvn
      rw [if_neg (by omega), ← x2, hn, ← hs1, ← hf, show Rz 1024 3 D2 = s1 from funext d1, show -(f - Rz 1024 3 Dc v) = Rz 1024 3 Dc v - f by omega]
    · rw [if_neg (by omega)]
      refine ⟨_, rfl, fun u => ?_, fun b hb => by rw [T_ot hb, d2 b hb]⟩
      rw [R_uI ⟨by omega, by omega⟩]
      unfold gvn
      rw [if_pos x2, hn, ← hs1, ← hf, show Rz 1024 3 D2 = s1 from funext d1]
  have mdl : ∀ D4 : DD, (∀ u, 0 ≤ u → u < 1024 → Rz 3072 33 D4 u = if u = p then -f else s1 u) → (∀ b, b ≠ 33 → b ≠ 32 → D4 b = Dm1 b) → (∀ k, k ≠ 41 → D4 32 k = Dm1 32 k) → D4 32 41 = Dm1 32 41 + n → HiEq Dm1 D4 →
      ∃ Em, (bnd (pM_freeAhead p D4) fun v3 D5 => if w32 v3 = -1 then okR 0 D5 else rdA 3072 33 v3 D5 fun v4 => rdA 3072 33 p D5 fun v5 => wrA 3072 33 v3 (v4 + v5) D5 fun D6 => wrA 3072 33 p 0 D6 fun D7 => okR 0 D7) = okR 0 Em ∧ (∀ u, 0 ≤ u → u < 1024 → Rz 3072 33 Em u = gvn (Rz 1024 3 Dc) p r u) ∧ (∀ b, b ≠ 33 → b ≠ 32 → Em b = Dm1 b) ∧ (∀ k, k ≠ 41 → Em 32 k = Dm1 32 k) ∧ Em 32 41 = Dm1 32 41 + n ∧ HiEq Dm1 Em := by
    intro D4 d1 d2 d3 d4 d5
    rw [a2 D4 (fun u x y => by rw [d1 u x (by omega), if_neg (by omega)]), bnd_ok]
    rcases a3 with ⟨x1, x2⟩ | ⟨x1, x2, x3, x4⟩
    · rw [x1, if_pos w32_m1]
      refine ⟨_, rfl, fun u y1 y2 => ?_, d2, d3, d4, d5⟩
      rw [d1 u y1 y2]
      unfold gvn
      rw [if_pos rfl, hn, ← hs1, ← hf]
      unfold uI
      rfl
    · rw [w32_of (z := r) (by omega), if_neg (by omega), rdA_R ⟨by omega, by omega, by decide⟩, rdA_R ⟨by omega, by omega, by decide⟩, wrA_T ⟨by omega, by omega, by decide⟩, wrA_T ⟨by omega, by omega, by decide⟩, d1 r (by omega) (by omega), d1 p (by omega) (by omega), if_neg (by omega), if_pos rfl, hs1l r x2]
      refine ⟨_, rfl, fun u y1 y2 => ?_, fun b q1 q2 => by rw [T_ot q1, T_ot q1, d2 b q1 q2], fun k hk => by rw [T_ot (by decide), T_ot (by decide), d3 k hk], by rw [T_ot (by decide), T_ot (by decide), d4], d5.trans ((HiEq.T (m := 1024) rfl (by omega)).trans (HiEq.T (m := 1024) rfl (by omega)))⟩
      rw [R_T, R_T]
      unfold gvn
      rw [if_neg (show ¬ r = -1 by omega), hn, ← hs1, ← hf]
      unfold uI
      by_cases q : u = p
      · rw [if_pos ⟨⟨by omega, by omega⟩, q⟩, if_neg (by omega), if_pos q]
      · rw [if_neg (fun z => q z.2)]
        by_cases q2 : u = r
        · rw [if_pos ⟨⟨by omega, by omega⟩, q2⟩, if_pos q2]; omega
        · rw [if_neg (fun z => q2 z.2), if_neg q2, if_neg q, d1 u y1 y2, if_neg q]
  by_cases g : Rz 1024 3 Dc (p + n) < 0
  · have g1024 : p + n < 16 * Dc 2 4 := (hT.1 (p + n) (by omega)).1 |> fun _ => by have := hT.1 (p + n) (by omega); omega
    rw [if_pos g, if_pos g1024, rdA_R ⟨by omega, by omega, by decide⟩, R_T_ne (by omega), R_up2_ot (by decide), e33 (p + n) (by omega) (by omega), w32_of (z := Rz 1024 3 Dc (p + n)) (by omega), if_pos g]
    rw [rdA_R ⟨by omega, by omega, by decide⟩, rdA_R ⟨by omega, by omega, by decide⟩, R_T_eq ⟨by omega, by omega⟩, R_T_ne (by omega), R_up2_ot (by decide), e33 (p + n) (by omega) (by omega), wrA_T ⟨by omega, by omega, by decide⟩, wrA_T ⟨by omega, by omega, by decide⟩, sto_T (by omega)]
    rw [if_pos g] at hf hs1
    rw [← hf]
    obtain ⟨Ec, k1, k2, k3⟩ := cls (Tz 1024 3 Dc1 (p + n) 0) (fun u => by rw [R_uI ⟨by omega, by omega⟩, hs1, show Rz 1024 3 Dc1 = Rz 1024 3 Dc from funext e3]) (fun b hb => T_ot hb)
    have hd1 : ∀ u, 0 ≤ u → u < 1024 → Rz 3072 33 (Tz 3072 33 (Tz 3072 33 (Tz 3072 33 (up2 Dm1 32 41 (Dm1 32 41 + n)) p (-n)) p (-n + Rz 1024 3 Dc (p + n))) (p + n) 0) u = if u = p then -f else s1 u := by
      intro u x y
      rw [R_T, R_T, R_T, R_up2_ot (by decide), e33 u x y, hs1]
      unfold uI
      by_cases q : u = p + n
      · rw [if_pos ⟨⟨by omega, by omega⟩, q⟩, if_neg (by omega), if_pos q]
      · rw [if_neg (fun z => q z.2), if_neg q]
        by_cases q2 : u = p
        · rw [if_pos ⟨⟨by omega, by omega⟩, q2⟩, if_pos q2]; omega
        · rw [if_neg (fun z => q2 z.2), if_neg (fun z => q2 z.2), if_neg q2]
    obtain ⟨Em, j1, j2, j3, j4, j5, j6⟩ := mdl (Tz 3072 33 (Tz 3072 33 (Tz 3072 33 (up2 Dm1 32 41 (Dm1 32 41 + n)) p (-n)) p (-n + Rz 1024 3 Dc (p + n))) (p + n) 0) hd1
      (fun b q1 q2 => by rw [T_ot q1, T_ot q1, T_ot q1, up2_ot q2]) (fun k hk => by rw [T_ot (by decide), T_ot (by decide), T_ot (by decide), up2_nk hk]) (by rw [T_ot (by decide), T_ot (by decide), T_ot (by decide), up2_eq])
      ((HiEq.ot (fun b _ _ => up2_ot (by omega))).trans ((HiEq.T (m := 1024) rfl (by omega)).trans ((HiEq.T (m := 1024) rfl (by omega)).trans (HiEq.T (m := 1024) rfl (by omega)))))
    exact ⟨Ec, Em, k1, j1, fin Ec Em k2 j2 k3 j3 j4 j5 j6⟩
  · rw [if_neg g]
    rw [if_neg g] at hf hs1
    have mm : ∀ X Y : Res, X = Y → (if p + n < 16 * Dc 2 4 then rdA 3072 33 (p + n) (Tz 3072 33 (up2 Dm1 32 41 (Dm1 32 41 + n)) p (-n)) fun v6 => if w32 v6 < 0 then X else Y else Y) = Y := fun X Y e => by
      subst e
      split
      · rw [rdA_R ⟨by omega, by omega, by decide⟩]
        split <;> rfl
      · rfl
    obtain ⟨Ec, k1, k2, k3⟩ := cls Dc1 (fun u => by rw [e3, hs1]) (fun b hb => rfl)
    have hd1 : ∀ u, 0 ≤ u → u < 1024 → Rz 3072 33 (Tz 3072 33 (up2 Dm1 32 41 (Dm1 32 41 + n)) p (-n)) u = if u = p then -f else s1 u := by
      intro u x y
      rw [R_T, R_up2_ot (by decide), e33 u x y, hs1]
      by_cases q2 : u = p
      · rw [if_pos ⟨⟨by omega, by omega⟩, q2⟩, if_pos q2]; omega
      · rw [if_neg (fun z => q2 z.2), if_neg q2]
    obtain ⟨Em, j1, j2, j3, j4, j5, j6⟩ := mdl (Tz 3072 33 (up2 Dm1 32 41 (Dm1 32 41 + n)) p (-n)) hd1
      (fun b q1 q2 => by rw [T_ot q1, up2_ot q2]) (fun k hk => by rw [T_ot (by decide), up2_nk hk]) (by rw [T_ot (by decide), up2_eq])
      ((HiEq.ot (fun b _ _ => up2_ot (by omega))).trans (HiEq.T (m := 1024) rfl (by omega)))
    rw [hf] at k1
    refine ⟨Ec, Em, k1, ?_, fin Ec Em k2 j2 k3 j3 j4 j5 j6⟩
    by_cases g1024 : p + n < 16 * Dc 2 4
    · rw [if_pos g1024, rdA_R ⟨by omega, by omega, by decide⟩, R_T_ne (by omega), R_up2_ot (by decide), e33 (p + n) (by omega) (by omega), w32_of (z := Rz 1024 3 Dc (p + n)) (by omega), if_neg g]
      exact j1
    · rw [if_neg g1024]
      exact j1
