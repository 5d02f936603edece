/-! taking one cell, side by side -/
theorem take_loop {n : Int} (hn : 1 ≤ n ∧ n ≤ 1000) : ∀ (f g : Nat) (r : Int) (Dc Dm : DD), CR Dc Dm → FF (Rz 1024 3 Dc) (16 * Dc 2 4) n r → (64 - Dc 2 4).toNat < f → (64 - Dc 2 4).toNat < g →
    ∃ r' Dc' Dm', (∀ K, pC_getCell_14 n f (zof r) (Dc 2 4) Dc K = K (zof r') Dc') ∧ (∀ K, pM_takes_6 n g r Dm K = K r' Dm') ∧ CR Dc' Dm' ∧ FF (Rz 1024 3 Dc') (16 * Dc' 2 4) n r' ∧ Fc Dc Dc' ∧ Fm Dm Dm' ∧ Us Dc Dc' ∧ (∀ u, 0 < Rz 1024 3 Dc' u → Rz 1024 3 Dc' u = Rz 1024 3 Dc u) := by
  intro f
  induction f with
  | zero => intro g r Dc Dm hC hF h1 h2; omega
  | succ f ih =>
    intro g r Dc Dm hC hF h1 h2
    obtain ⟨hT, hsc, hm, hs⟩ := id hC
    have hr : r = -1 ∨ 4 ≤ r ∧ r < 1024 := by
      rcases hF with ⟨q, -⟩ | ⟨q1, q2, q3, -⟩
      · exact Or.inl q
      · exact Or.inr (hT.in (by omega) (by omega))
    match g, h2 with
    | g + 1, h2 =>
      by_cases hend : r = -1 ∧ Dc 2 4 < 64
      · obtain ⟨e1, e2⟩ := hend
        obtain ⟨Dc1, Dm1, a1, a2, a3, a4, a5, a6, a7, a8⟩ := grow_both hC e2
        obtain ⟨r1, b1, b2, b3⟩ := ff_both a3 hn
        obtain ⟨r', Dc', Dm', c1, c2, c3, c4, c5, c6, c7, c8⟩ := ih g r1 Dc1 Dm1 a3 b3 (by omega) (by omega)
        refine ⟨r', Dc', Dm', fun K => ?_, fun K => ?_, c3, c4, a4.trans c5, a5.trans c6, a7.trans c7, fun u hu => ?_⟩
        · rw [pC_getCell_14, w32_of (z := Dc 2 4) (by omega), if_pos e2, e1, show zof (-1) = 0 from rfl, if_pos w32_k0, a1, bnd_ok, b1, bnd_ok, ← a6]
          exact c1 K
        · rw [pM_takes_6, e1, if_pos w32_m1, hm, w32_of (z := Dc 2 4) (by omega), if_pos e2, a2, bnd_ok, b2, bnd_ok]
          exact c2 K
        · have e := c8 u hu
          rw [e] at hu ⊢
          exact a8 u hu
      · refine ⟨r, Dc, Dm, fun K => ?_, fun K => ?_, hC, hF, ⟨fun _ _ _ => rfl, rfl⟩, ⟨fun _ _ _ => rfl, HiEq.rf _⟩, fun _ _ => rfl, fun _ _ => rfl⟩
        · rw [pC_getCell_14, w32_of (z := Dc 2 4) (by omega)]
          by_cases q : Dc 2 4 < 64
          · rw [if_pos q, if_neg]
            have q2 : r ≠ -1 := fun q2 => hend ⟨q2, q⟩
            unfold zof
            rw [if_neg q2, w32_of (by omega)]
            omega
          · rw [if_neg q]
        · rw [pM_takes_6, w32_of (z := r) (by omega), hm, w32_of (z := Dc 2 4) (by omega)]
          by_cases q : r = -1
          · rw [if_pos q, if_neg (fun q2 => hend ⟨q, q2⟩)]
          · rw [if_neg q]
theorem take_both {Dc Dm : DD} {n : Int} (hC : CR Dc Dm) (hn : 1 ≤ n ∧ n ≤ 1000) :
    ∃ r Dc' Dm', pC_getCell n Dc = okR (zof r) Dc' ∧ pM_takes n Dm = okR r Dm' ∧ CR Dc' Dm' ∧ Fc Dc Dc' ∧ Fm Dm Dm' ∧ Us Dc Dc' ∧ (r = -1 ∨ (4 ≤ r ∧ Rz 1024 3 Dc r ≤ 0 ∧ Rz 1024 3 Dc' r = n)) := by
  obtain ⟨r0, b1, b2, b3⟩ := ff_both hC hn
  have hsc := hC.2.1
  obtain ⟨r, Dc', Dm', c1, c2, c3, c4, c5, c6, c7, c8⟩ := take_loop hn fu fu r0 Dc Dm hC b3 (fu_gt (by omega)) (fu_gt (by omega))
  obtain ⟨hT, hsc', hm, hs⟩ := id c3
  unfold pC_getCell pM_takes
  simp only [ltR, jnR, gD]
  rw [b1, b2]
  simp only [bnd_ok]
  rw [c1, c2]
  by_cases g : r = -1
  · refine ⟨r, Dc', Dm', ?_, ?_, c3, c5, c6, c7, Or.inl g⟩
    · rw [g, show zof (-1) = 0 from rfl, if_pos w32_k0]
    · rw [g, if_pos w32_m1]
  · have hr : 0 ≤ r ∧ r < 16 * Dc' 2 4 ∧ Rz 1024 3 Dc' r ≤ -n := by
      rcases c4 with ⟨q, -⟩ | ⟨q1, q2, q3, -⟩
      · exact absurd q g
      · exact ⟨q1, q2, q3⟩
    have hin := hT.in (u := r) (by omega) (by omega)
    have bd := hT.bd (by omega) r
    have b1r := hT.1 r (by omega)
    have hz : zof r = r := if_neg g
    have htk := hT.take hn.1 hr.2.2
    rw [hz, w32_of (z := r) (by omega), if_neg (by omega), if_neg g, rd_R (by omega), rdA_R ⟨by omega, by omega, by decide⟩, hs r (by omega) (by omega), wrA_T ⟨by omega, by omega, by decide⟩,
      w32_of (z := Rz 1024 3 Dc' r + n) (by omega), w32_of (z := -Rz 1024 3 Dc' r - n) (by omega)]
    have fin : ∀ Ec Em : DD, Rz 1024 3 Ec = tkn (Rz 1024 3 Dc') r n → (∀ k, 0 ≤ k → k < 1024 → Rz 3072 33 Em k = tkn (Rz 1024 3 Dc') r n k) → (∀ b, b ≠ 3 → Ec b = Dc' b) → (∀ b, b ≠ 33 → Em b = Dm' b) → HiEq Dm' Em →
        CR Ec Em ∧ Fc Dc Ec ∧ Fm Dm Em ∧ Us Dc Ec ∧ (r = -1 ∨ (4 ≤ r ∧ Rz 1024 3 Dc r ≤ 0 ∧ Rz 1024 3 Ec r = n)) := by
      intro Ec Em d1 d2 d3 d4 d5
      have e2 : Ec 2 = Dc' 2 := d3 2 (by decide)
      have e34 : Em 34 = Dm' 34 := d4 34 (by decide)
      refine ⟨⟨?_, ?_, ?_, fun k a b => ?_⟩, c5.trans ⟨fun b _ h3 => d3 b h3, by rw [e2]⟩, c6.trans ⟨fun b h3 _ => d4 b h3, d5⟩, c7.trans (fun u hu => ?_), Or.inr ⟨hin.1, ?_, ?_⟩⟩
      · rw [d1, e2]; exact htk
      · rw [e2]; exact hsc'
      · rw [e34, e2]; exact hm
      · rw [d2 k a b, d1]
      · rw [d1]; exact tkn_used hT hn.1 hr.2.2 hu
      · refine Int.not_lt.mp fun q => ?_
        have := c7 r q
        omega
      · rw [d1]; exact uI_eq
    by_cases q : Rz 1024 3 Dc' r + n < 0
    · rw [if_pos q, if_pos (by omega), sto_T (by omega), sto_T (by omega), wrA_T ⟨by omega, by omega, by decide⟩]
      refine ⟨r, Tz 1024 3 (Tz 1024 3 Dc' (r + n) (Rz 1024 3 Dc' r + n)) r n, Tz 3072 33 (Tz 3072 33 Dm' r n) (r + n) (-(-Rz 1024 3 Dc' r - n)), by rw [hz], rfl, fin _ _ ?_ (fun k a b => ?_) (fun b hb => by rw [T_ot hb, T_ot hb]) (fun b hb => by rw [T_ot hb, T_ot hb]) ((HiEq.T (m := 1024) rfl (by omega)).trans (HiEq.T (m := 1024) rfl (by omega)))⟩
      · rw [R_uI ⟨by omega, by omega⟩, R_uI ⟨by omega, by omega⟩]
        unfold tkn
        rw [if_pos q]
      · rw [R_uI ⟨by omega, by omega⟩, R_uI ⟨by omega, by omega⟩]
        unfold tkn
        rw [if_pos q]
        unfold uI
        by_cases q1 : k = r
        · rw [if_neg (by omega), if_pos q1, if_pos q1]
        · rw [if_neg q1]
          by_cases q2 : k = r + n
          · rw [if_pos q2, if_pos q2]; omega
          · rw [if_neg q2, if_neg q1, if_neg q2]; exact hs k a b
    · rw [if_neg q, if_neg (by omega), sto_T (by omega)]
      refine ⟨r, Tz 1024 3 Dc' r n, Tz 3072 33 Dm' r n, by rw [hz], rfl, fin _ _ ?_ (fun k a b => ?_) (fun b hb => T_ot hb) (fun b hb => T_ot hb) (HiEq.T (m := 1024) rfl (by omega))⟩
      · rw [R_uI ⟨by omega, by omega⟩]
        unfold tkn
        rw [if_neg q]
      · rw [R_uI ⟨by omega, by omega⟩]
        unfold tkn
        rw [if_neg q]
        unfold uI
        by_cases q1 : k = r
        · rw [if_pos q1, if_pos q1]
        · rw [if_neg q1, if_neg q1]; exact hs k a b
