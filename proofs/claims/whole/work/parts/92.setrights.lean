/-! setRights -/
section SETRIGHTS
variable {Dc Dm : DD} {m : Int}
/-- rights that some key has: nothing is wanted -/
theorem have_old {r : Int} (hr : 0 ≤ r ∧ r < 256) (h1 : 1 ≤ Rz 768 57 Dm r) (h2 : Rz 768 57 Dm r ≤ 1000) : ∃ Dm0, pM_cannotHave r Dm = okR 0 Dm0 ∧ (∀ b, b ∉ [32, 67] → Dm0 b = Dm b) ∧ (∀ j, j ≠ 37 → Dm0 32 j = Dm 32 j) ∧ Dm0 32 37 = 0 := by
  obtain ⟨D', k1, k2⟩ := gets0_m (D := up2 Dm 32 37 0) (up2_eq ..)
  refine ⟨D', ?_, fun b hb => by rw [k2 b (nin hb (by decide)), up2_ot (nin hb (by decide))], fun j hj => by rw [k2 32 (by decide), up2_nk hj], by rw [k2 32 (by decide), up2_eq]⟩
  unfold pM_cannotHave
  simp only [gD, jnR]
  rw [rdA_R (by omega), R_up2_ot (by decide), w32_of (by omega), if_neg (by omega), k1, bnd_ok, w32_k1, if_neg (by decide)]
theorem join_core {r : Int} (h : St Dc Dm m) (hr : 0 ≤ r ∧ r < 256) (h80 : 0 ≤ Rz 768 57 Dm r ∧ Rz 768 57 Dm r ≤ 80) :
    (∃ Dc' Dm', pS_join r Dc = okR 0 Dc' ∧ pM_cannotHave r Dm = okR 1 Dm' ∧ (Tr Dc' Dm' ∧ Dy Dc' Dm' ∧ Wt Dc' Dm' m) ∧ Oc Dc Dc' ∧ Om Dm Dm') ∨
    (∃ Dc1 Dm0 Dm1, pS_join r Dc = okR 1 Dc1 ∧ pM_cannotHave r Dm = okR 0 Dm0 ∧ Dm0 41 = Dm 41 ∧ (∀ K : DD → Res, (bnd (pM_writesGot (up2 Dm0 32 42 0)) fun _ D4 => jnR (fun (D5 : DD) => rdA 768 57 r D5 fun v4 => wrA 768 57 r (v4 + 1) D5 fun D6 => rdA 768 56 r D6 fun v5 => bnd (pM_writes v5 D6) fun _ D7 => K D7) fun J2 => if 0 < (w32 (D4 32 37)) then (wrA 768 56 r (D4 66 0) D4 fun D12 => J2 D12) else J2 D4) = K Dm1) ∧
      T0 (th Dm) (Rz 768 56 Dm1) (Rz 768 57 Dm1) Dc1 Dm1 ∧ Dy Dc1 Dm1 ∧ (∀ b, b ∉ [2, 3, 4, 6, 7, 8, 9, 10] → Dc1 b = Dc b) ∧ (∀ b, b ∉ [32, 33, 34, 56, 57, 58, 65, 66, 67] → Dm1 b = Dm b) ∧ (∀ j, j ≠ 37 → j ≠ 42 → Dm1 32 j = Dm 32 j) ∧ Dm1 32 42 = 0 ∧ HiEq Dm Dm1 ∧ (∀ i, Rz 768 57 Dm1 i = if i = r then Rz 768 57 Dm r + 1 else Rz 768 57 Dm i)) := by
  obtain ⟨f1, f2⟩ := h.1.1.2.2.2.2.1 r hr.1 hr.2
  by_cases q : Rz 768 57 Dm r = 0
  · -- no key has them yet
    have hjoin : pS_join r Dc = bnd (pC_getAllWanted (pC_want 2 (pC_wantNothing Dc))) fun v1 D5 => if (w32 v1) = 0 then okR 0 D5 else bnd (pS_changeCount r 1 (pI_putUnit (pC_got 0 (pI_setPlaceOfRights r (pC_got 0 D5) D5)) 0 (pI_setPlaceOfRights r (pC_got 0 D5) D5))) fun _ D2 => okR 1 D2 := by
      unfold pS_join pI_placeOfRights
      simp only [gD, jnR]
      rw [rd_R (by omega), f1 q, w32_k0, if_pos rfl]
    have hcan : pM_cannotHave r Dm = bnd (pM_wants 2 (up2 Dm 32 37 0)) fun _ D4 => bnd (pM_gets D4) fun v2 D3 => if (w32 v2) = 0 then okR 1 D3 else okR 0 D3 := by
      unfold pM_cannotHave
      simp only [gD, jnR]
      rw [rdA_R (by omega), R_up2_ot (by decide), q, w32_k0, if_pos rfl]
    obtain ⟨gc0, gm0, wn0⟩ := wantNothing_both Dc Dm (fun _ => 2)
    obtain ⟨Dm1, k1, k2, k3, k4⟩ := want_both wn0 ⟨by omega, by omega⟩ (n := 2) (by omega)
    have h1 : St (pC_want 2 (pC_wantNothing Dc)) Dm1 m := h.gw (gc0.trans k2) (gm0.trans k3)
    have gc2 := gc0.trans k2
    have gm2 := gm0.trans k3
    obtain ⟨Dc3, Dm3, ⟨g1, g2, g3, g4⟩, g5, g6, g7, g8, g9⟩ := gets_ok h1 k4 (by omega)
    rcases g9 with ⟨y1, y2, g, y3, y4, y5⟩ | ⟨y1, y2, y3⟩
    · right
      obtain ⟨a1, a2, a3, a4⟩ := y3 0 (by omega) (by omega)
      rw [if_pos (by omega)] at a3 a4
      have e57 : Rz 768 57 Dm3 = Rz 768 57 Dm := Rz_fn ((g7 57 (by decide)).trans (gm2.1 57 (by decide)))
      have e36 : th Dm3 = th Dm := th_fn ((g7 36 (by decide)).trans (gm2.1 36 (by decide)))
      obtain ⟨Dc4, c1, c2, c3, c4, c5⟩ := g1.1.newr (r := r) (p := g 0) hr (by rw [e57]; exact q) a3
      obtain ⟨Dm4, w1, w2⟩ := writesGot_m (g := g) (w := fun i => if i = 0 + 1 - 1 then 2 else 2) (D := up2 Dm3 32 42 0) (c := 0 + 1) (by omega) (by rw [up2_nk (by decide)]; exact g8) (fun i x1 x2 => by
        have e : i = 0 := by omega
        subst e
        have hb : 0 ≤ g 0 ∧ g 0 < 1024 := by omega
        refine ⟨by rw [R_up2_ot (by decide)]; exact a2, ?_, by simp, by omega, by simp; exact a4.2⟩
        rw [R_up2_ot (by decide), g1.1.1.2.2.2 _ hb.1 hb.2, a3.1]
        simp)
      have d66 : Dm4 66 0 = g 0 := by
        rw [w2.1 66 (by decide), up2_ot (by decide)]
        have := a2
        unfold Rz at this
        rw [if_pos ⟨by omega, by omega⟩] at this
        exact this
      have e574 : Rz 768 57 Dm4 r = 0 := by rw [R_cg (w2.1 57 (by decide)), R_up2_ot (by decide), e57, q]
      obtain ⟨Dm5, v1, v2⟩ := mark_model (D := Tz 768 57 (Tz 768 56 Dm4 r (g 0)) r 1) (p := g 0) (n := 2) (by
        rw [R_T_ot (by decide), R_T_ot (by decide), R_cg (w2.1 33 (by decide)), R_up2_ot (by decide), g1.1.1.2.2.2 _ (by omega) (by omega)]
        exact a3.1) (by decide) (by omega) (by omega)
      have fr5 : ∀ b, b ∉ [32, 56, 57, 58] → Dm5 b = Dm3 b := fun b hb => by
        rw [v2.1 b (nin hb (by decide)), T_ot (nin hb (by decide)), T_ot (nin hb (by decide)), w2.1 b (nin hb (by decide)), up2_ot (nin hb (by decide))]
      have e565 : Rz 768 56 Dm5 = uI (Rz 768 56 Dm3) r (g 0) := by
        funext i
        rw [R_cg (v2.1 56 (by decide)), R_T_ot (by decide), R_T, R_cg (w2.1 56 (by decide)), R_up2_ot (by decide)]
        unfold uI
        by_cases e : i = r
        · rw [if_pos ⟨by omega, e⟩, if_pos e]
        · rw [if_neg (fun z => e z.2), if_neg e]
      have e575 : ∀ i, Rz 768 57 Dm5 i = if i = r then 1 else Rz 768 57 Dm i := fun i => by
        rw [R_cg (v2.1 57 (by decide)), R_T, R_T_ot (by decide), R_cg (w2.1 57 (by decide)), R_up2_ot (by decide), e57]
        by_cases e : i = r
        · rw [if_pos ⟨by omega, e⟩, if_pos e]
        · rw [if_neg (fun z => e z.2), if_neg e]
      refine ⟨Dc4, Dm3, Dm5, ?_, ?_, (g7 41 (by decide)).trans (gm2.1 41 (by decide)), fun K => ?_, ?_, fun s x1 x2 => ?_, fun b hb => ?_, fun b hb => ?_, fun j u1 u2 => ?_, ?_, ?_, fun i => ?_⟩
      · rw [hjoin, y1, bnd_ok, w32_k1, if_neg (by decide)]
        unfold pI_setPlaceOfRights pI_putUnit pC_got
        simp only [gD]
        rw [rd_R (i := 0) (D := Dc3) (by omega), a1, sto_T (i := r) (by omega), rd_R (i := 0) (D := Tz 256 6 Dc3 r (g 0)) (by omega), R_T_ot (by decide), a1, sto_T (by omega), c1, bnd_ok]
      · rw [hcan, k1, bnd_ok, y2, bnd_ok, w32_k1, if_neg (by decide)]
      · simp only [jnR]
        rw [w1, bnd_ok, w2.1 32 (by decide), up2_nk (by decide), g8, show w32 (0 + 1) = 1 by decide, if_pos (by decide), d66, wrA_T (by omega), rdA_R (by omega), R_T_ot (by decide), e574, wrA_T (by omega), rdA_R (by omega), R_T_ot (by decide), R_T_eq (by omega), show (0 : Int) + 1 = 1 by decide, v1, bnd_ok]
      · rw [e565, show Rz 768 57 Dm5 = uI (Rz 768 57 Dm3) r 1 by funext i; rw [e575, e57]; rfl, ← e36]
        exact c5.eqv rfl rfl rfl rfl rfl (fun b _ _ => fr5 b (by simp only [List.mem_cons, List.not_mem_nil, or_false]; omega))
      · have d1 : Rz 64 58 (Tz 768 57 (Tz 768 56 Dm4 r (g 0)) r 1) s = Rz 64 58 Dm4 s := by rw [R_T_ot (by decide), R_T_ot (by decide)]
        have d2 : Rz 64 58 (up2 Dm3 32 42 0) s = Rz 64 58 Dm3 s := R_up2_ot (by decide)
        rw [c4 s x1 x2, y5 s x1 x2, v2.2 s x1 x2, d1, w2.2 s x1 x2, d2]
        constructor
        · rintro ((z | ⟨i, z1, z2, z3⟩) | z)
          · exact Or.inl (Or.inl z)
          · have : i = 0 := by omega
            subst this
            rw [if_pos (by omega)] at z3
            exact Or.inr z3
          · exact Or.inr z
        · rintro ((z | ⟨i, z1, z2, z3⟩) | z)
          · exact Or.inl (Or.inl z)
          · have : i = 0 := by omega
            subst this
            rw [if_pos (by omega)] at z3
            exact Or.inr z3
          · exact Or.inr z
      · rw [c2 b (nsub hb (by decide)), g5 b (nsub hb (by decide)), gc2.1 b (nsub hb (by decide))]
      · rw [fr5 b (nsub hb (by decide)), g7 b (nsub hb (by decide)), gm2.1 b (nsub hb (by decide))]
      · rw [v2.1 32 (by decide), T_ot (by decide), T_ot (by decide), w2.1 32 (by decide), up2_nk u2, g7 32 (by decide), gm2.2 j u1]
      · rw [v2.1 32 (by decide), T_ot (by decide), T_ot (by decide), w2.1 32 (by decide), up2_eq]
      · exact ((gm2.hi.trans g4.2.2).trans ((Om.thr Dm3 0).2.2.trans (HiEq.ot (fun b _ _ => w2.1 b (by omega))))).trans (((HiEq.T (n := 768) (a := 56) (m := 256) (by decide) (by omega)).trans (HiEq.T (n := 768) (a := 57) (m := 256) (by decide) (by omega))).trans (HiEq.ot (fun b _ _ => v2.1 b (by omega))))
      · rw [e575, q]
        rfl
    · refine Or.inl ⟨Dc3, Dm3, ?_, ?_, ⟨g1, y3, g2⟩, gc2.oc.trans g3, gm2.om.trans g4⟩
      · rw [hjoin, y1, bnd_ok, w32_k0, if_pos rfl]
      · rw [hcan, k1, bnd_ok, y2, bnd_ok, w32_k0, if_pos rfl]
  · -- some key has them
    right
    obtain ⟨r1, r2, r3⟩ := f2 (by omega)
    have rt := h.1.1.1.1.1 (Rz 768 56 Dm r) (by omega)
    have rs := h.1.1.1.2.1
    obtain ⟨Dm0, o1, o2, o3, o4⟩ := have_old (Dm := Dm) hr (by omega) (by omega)
    obtain ⟨Dc1, d1, d2, d3⟩ := h.1.1.count (r := r) (b := 1) hr (by omega) (by omega)
    obtain ⟨Dm1, w1, w2⟩ := writesGot_m (g := fun _ => 0) (w := fun _ => 0) (D := up2 Dm0 32 42 0) (c := 0) (by omega) (by rw [up2_nk (by decide)]; exact o4) (fun i x1 x2 => by omega)
    have fr1 : ∀ b, b ∉ [32, 58, 67] → Dm1 b = Dm b := fun b hb => by rw [w2.1 b (nin hb (by decide)), up2_ot (nin hb (by decide)), o2 b (nsub hb (by decide))]
    obtain ⟨Dm2, v1, v2⟩ := count_m (Dm := Dm1) (r := r) (b := Rz 768 57 Dm r + 1) (p := Rz 768 56 Dm r) hr (R_cg (fr1 56 (by decide)) r) (by rw [R_cg (fr1 33 (by decide)), h.1.1.1.2.2.2 _ (by omega) (by omega)]; exact r2) (by omega)
    have fr2 : ∀ b, b ∉ [32, 57, 58, 67] → Dm2 b = Dm b := fun b hb => by rw [v2.1 b (nin hb (by decide)), T_ot (nin hb (by decide)), fr1 b (nsub hb (by decide))]
    have e57 : ∀ i, Rz 768 57 Dm2 i = if i = r then Rz 768 57 Dm r + 1 else Rz 768 57 Dm i := fun i => by
      rw [R_cg (v2.1 57 (by decide)), R_T, R_cg (fr1 57 (by decide))]
      by_cases e : i = r
      · rw [if_pos ⟨by omega, e⟩, if_pos e]
      · rw [if_neg (fun z => e z.2), if_neg e]
    have hi2 : HiEq Dm Dm2 := ((HiEq.ot (fun b _ _ => o2 b (by simp only [List.mem_cons, List.not_mem_nil, or_false]; omega))).trans ((Om.thr Dm0 0).2.2.trans (HiEq.ot (fun b _ _ => w2.1 b (by omega))))).trans ((HiEq.T (n := 768) (a := 57) (m := 256) (by decide) (by omega)).trans (HiEq.ot (fun b _ _ => v2.1 b (by omega))))
    refine ⟨Dc1, Dm0, Dm2, ?_, o1, o2 41 (by decide), fun K => ?_, ?_, fun s x1 x2 => ?_, fun b hb => d2.1 b (nin hb (by decide)) (nin hb (by decide)), fun b hb => fr2 b (nsub hb (by decide)), fun j u1 u2 => ?_, ?_, hi2, e57⟩
    · unfold pS_join pI_placeOfRights
      simp only [gD, jnR]
      rw [rd_R (by omega), r1, w32_of (by omega), if_neg (by omega), d1, bnd_ok]
    · simp only [jnR]
      rw [w1, bnd_ok, w2.1 32 (by decide), up2_nk (by decide), o4, w32_k0, if_neg (by decide), rdA_R (by omega), R_cg (fr1 57 (by decide)), wrA_T (by omega), rdA_R (by omega), v1, bnd_ok]
    · rw [Rz_fn (fr2 56 (by decide)), show Rz 768 57 Dm2 = uI (Rz 768 57 Dm) r (Rz 768 57 Dm r + 1) by funext i; rw [e57]; rfl]
      exact d3.eqv rfl rfl rfl rfl rfl (fun b _ _ => fr2 b (by simp only [List.mem_cons, List.not_mem_nil, or_false]; omega))
    · have z1 : Rz 64 58 (Tz 768 57 Dm1 r (Rz 768 57 Dm r + 1)) s = Rz 64 58 Dm1 s := R_T_ot (by decide)
      have z2 : Rz 64 58 (up2 Dm0 32 42 0) s = Rz 64 58 Dm s := by rw [R_up2_ot (by decide), R_cg (o2 58 (by decide))]
      rw [d2.2.2 s x1 x2, h.2.1 s x1 x2, v2.2 s x1 x2, z1, w2.2 s x1 x2, z2]
      constructor
      · rintro (z | z)
        · exact Or.inl (Or.inl z)
        · exact Or.inr z
      · rintro ((z | ⟨i, y1, y2, -⟩) | z)
        · exact Or.inl z
        · omega
        · exact Or.inr z
    · rw [v2.1 32 (by decide), T_ot (by decide), w2.1 32 (by decide), up2_nk u2, o3 j u1]
    · rw [v2.1 32 (by decide), T_ot (by decide), w2.1 32 (by decide), up2_eq]
theorem setRights_ok {k r : Int} (h : St Dc Dm m) (hk : -2147483648 ≤ k ∧ k ≤ 2147483647) (hr : -2147483648 ≤ r ∧ r ≤ 2147483647) : Ok [(0, 1), (1, 2), (2, 3)] Dc Dm m (pH_setRights k r Dc) (pM_setRights k r Dm) := by
  have hin : pM_isIn r 0 255 = if 0 ≤ r ∧ r ≤ 255 then 1 else 0 := isIn_m hr (by omega) (by omega)
  rcases key_both h.1 hk with ⟨g, t, c0, c, d⟩ | ⟨g, c0, c, d⟩
  · by_cases q : 0 ≤ r ∧ r ≤ 255
    · have hq : pH_requireRights r Dc = okR 0 Dc := by
        unfold pH_requireRights
        simp only [jnR]
        rw [w32_of hr, if_neg (by omega), if_neg (by omega)]
      obtain ⟨p1, p2, p3⟩ := h.1.place g t
      have hkr := St.kr h.1 g t
      have hob := hkr.2.2.2.1.2.1
      have hhas := h.1.2.has g t hob
      obtain ⟨o, ho⟩ : ∃ o, Rz 240 41 Dm k = o := ⟨_, rfl⟩
      rw [ho] at hob hhas
      have hb80 := sm_bd (f := fun i => if Rz 240 36 Dm i = 1 ∧ Rz 240 41 Dm i = r then 1 else 0) (b := 1) (by decide) 80 80 rfl (fun j _ _ => by split <;> omega)
      have h57 := h.1.2.2.2.2.2.2 r q.1 (by omega)
      obtain ⟨p, hp⟩ : ∃ p, Rz 240 40 Dm k = p := ⟨_, rfl⟩
      rw [hp] at p1 p2 p3
      have cl : pH_setRights k r Dc = if r = o then okR o Dc else bnd (pS_join r Dc) fun v1 D3 => bnd (pH_requireRoom v1 D3) fun _ D4 => bnd (pS_leave o D4) fun v2 D5 => gD (pI_putUnit (p + 4) r D5) fun D6 => bnd (pC_markWritten p D6) fun _ D7 => bnd (pH_tellUpwards k 4 D7) fun _ D8 => okR o D8 := by
        unfold pH_setRights pI_placeOfKey pI_unitAt
        simp only [ltR]
        rw [c, bnd_ok, hq, bnd_ok, rd_R hk, p1, rd_R (i := p + 4) (by omega), ← hp, hkr.2.2.1.2.2.1, ho, w32_of hr, w32_of (z := o) (by omega)]
      have md : ∀ D1 v, pM_cannotHave r Dm = okR v D1 → (v = 0 ∨ v = 1) → pM_setRights k r Dm = if v = 0 then (bnd (pM_fails 0 D1) fun v2 D3 => if (w32 v2) = 0 then (rdA 240 41 k D3 fun v3 => if (w32 v3) = (w32 r) then okR v3 D3 else (bnd (pM_writesGot D3) fun _ D4 => jnR (fun (D5 : DD) => rdA 768 57 r D5 fun v4 => wrA 768 57 r (v4 + 1) D5 fun D6 => rdA 768 56 r D6 fun v5 => bnd (pM_writes v5 D6) fun _ D7 => bnd (pM_leavesRights v3 D7) fun _ D8 => wrA 240 41 k r D8 fun D9 => rdA 240 40 k D9 fun v6 => bnd (pM_writes v6 D9) fun _ D10 => bnd (pM_changes k 4 D10) fun _ D11 => okR v3 D11) fun J2 => if 0 < (w32 (D4 32 37)) then (wrA 768 56 r (D4 66 0) D4 fun D12 => J2 D12) else J2 D4)) else okR 0 D3) else (bnd (pM_fails 3 D1) fun v2 D3 => if (w32 v2) = 0 then (rdA 240 41 k D3 fun v3 => if (w32 v3) = (w32 r) then okR v3 D3 else (bnd (pM_writesGot D3) fun _ D4 => jnR (fun (D5 : DD) => rdA 768 57 r D5 fun v4 => wrA 768 57 r (v4 + 1) D5 fun D6 => rdA 768 56 r D6 fun v5 => bnd (pM_writes v5 D6) fun _ D7 => bnd (pM_leavesRights v3 D7) fun _ D8 => wrA 240 41 k r D8 fun D9 => rdA 240 40 k D9 fun v6 => bnd (pM_writes v6 D9) fun _ D10 => bnd (pM_changes k 4 D10) fun _ D11 => okR v3 D11) fun J2 => if 0 < (w32 (D4 32 37)) then (wrA 768 56 r (D4 66 0) D4 fun D12 => J2 D12) else J2 D4)) else okR 0 D3) := fun D1 v hv hv2 => by
        unfold pM_setRights
        rw [d, bnd_ok]
        simp only [jnR]
        rw [w32_k1, if_neg (by decide), hin, if_pos q, if_neg (by decide), hv, bnd_ok]
        rcases hv2 with z | z
        · subst z
          rw [w32_k0]
        · subst z
          rw [w32_k1]
      by_cases e : r = o
      · -- the same rights
        obtain ⟨Dm0, o1, o2, o3, o4⟩ := have_old (Dm := Dm) (r := r) (by omega) (by rw [e]; exact hhas.1) (by rw [e]; omega)
        have e41 : Rz 240 41 (up2 Dm0 32 42 0) k = o := by rw [R_up2_ot (by decide), R_cg (o2 41 (by decide)), ho]
        have om : ∀ b, b ∉ [32, 67] → up2 Dm0 32 42 0 b = Dm b := fun b hb => by rw [up2_ot (nin hb (by decide)), o2 b hb]
        refine ⟨Dc, up2 Dm0 32 42 0, o, ?_, ⟨h.1.eqv (fun _ _ _ => rfl) (fun b _ _ => om b (by simp only [List.mem_cons, List.not_mem_nil, or_false]; omega)), h.2.1.cong rfl (om 58 (by decide)), (h.2.2.1.cong rfl rfl rfl rfl rfl (om 59 (by decide)) (om 60 (by decide)) (om 61 (by decide)) (om 62 (by decide)) (om 63 (by decide)) (by rw [up2_nk (by decide), o3 29 (by decide)])).mono (by omega)⟩, Oc.rf _, ⟨fun b hb => om b (by simp only [List.mem_cons, List.not_mem_nil, or_false]; omega), fun j _ _ => by rw [up2_nk (by omega), o3 j (by omega)], HiEq.ot (fun b _ _ => om b (by simp only [List.mem_cons, List.not_mem_nil, or_false]; omega))⟩, Or.inl ⟨by rw [cl, if_pos e], up2_eq ..⟩⟩
        rw [md Dm0 0 o1 (Or.inl rfl), if_pos rfl, fails0, bnd_ok, w32_k0, if_pos rfl, rdA_R (by omega), e41, e, if_pos rfl]
      · rw [if_neg e] at cl
        rcases join_core (r := r) h (by omega) (by omega) with ⟨Dc', Dm', k1, k2, k3, k4, k5⟩ | ⟨Dc1, Dm0, Dm1, k1, k2, k2', k3, k4, k5, k6, k7, k8, k9, k10, k11⟩
        · refine Ok.cannot (v := 0) (e := 2) (x := 3) k3 k4 k5 (by decide) ?_ ?_
          · rw [md Dm' 1 k2 (Or.inr rfl), if_neg (by decide), failsP (by omega), bnd_ok, w32_k1, if_neg (by decide)]
          · rw [cl, k1, bnd_ok]
            unfold pH_requireRoom
            rw [w32_k0, if_pos rfl, bnd_er]
        · have s57 : Rz 768 57 Dm1 o = Rz 768 57 Dm o := by rw [k11, if_neg (fun z => e z.symm)]
          obtain ⟨Dc2, Dm2, P, v, l1, l2, l3, l4, l5, l6, l7, l8, l9, l10, l11, l12⟩ := k4.leave (r := o) (by omega) (by rw [s57]; exact hhas.1) (by rw [s57]; omega)
          have e40 : Rz 240 40 Dm2 k = p := by rw [R_cg (l8 40 (by decide)), R_cg (k7 40 (by decide)), hp]
          have kc := l3.2.2.2.1 k g.1 g.2 t
          have kc6 := kc.2.1
          rw [e40] at kc6
          obtain ⟨Dc5, y1, y2⟩ := mark_class (D := Tz 1024 4 Dc2 (p + 4) r) (p := p) (n := 6) (by rw [R_T_ot (by decide)]; exact kc6) (by decide) (by omega) p3
          obtain ⟨Dm5, z1, z2⟩ := mark_model (D := Tz 240 41 Dm2 k r) (p := p) (n := 6) (by rw [R_T_ot (by decide), l3.1.2.2.2 _ (by omega) (by omega)]; exact kc6) (by decide) (by omega) p3
          have g5 : ∀ b, b ∉ [41, 58] → Dm5 b = Dm2 b := fun b hb => (z2.1 b (nin hb (by decide))).trans (T_ot (nin hb (by decide)))
          have o5 : ∀ b, b ∉ [4, 7] → Dc5 b = Dc2 b := fun b hb => (y2.1 b (nin hb (by decide))).trans (T_ot (nin hb (by decide)))
          have n41 : ∀ i, Rz 240 41 Dm5 i = if i = k then r else Rz 240 41 Dm i := fun i => by
            rw [R_cg (z2.1 41 (by decide)), R_T, R_cg (l8 41 (by decide)), R_cg (k7 41 (by decide))]
            by_cases e : i = k
            · rw [if_pos ⟨by omega, e⟩, if_pos e]
            · rw [if_neg (fun u => e u.2), if_neg e]
          have un5 : ∀ u, Rz 1024 4 Dc5 u = if u = p + 4 then r else Rz 1024 4 Dc2 u := fun u => by
            rw [R_cg (y2.1 4 (by decide)), R_T]
            by_cases e : u = p + 4
            · rw [if_pos ⟨by omega, e⟩, if_pos e]
            · rw [if_neg (fun u => e u.2), if_neg e]
          have om : ∀ b, b ∉ [32, 33, 34, 41, 56, 57, 58, 65, 66, 67] → Dm5 b = Dm b := fun b hb => by rw [g5 b (nsub hb (by decide)), l8 b (nsub hb (by decide)), k7 b (nsub hb (by decide))]
          have oc : ∀ b, b ∉ [2, 3, 4, 6, 7, 8, 9, 10] → Dc5 b = Dc b := fun b hb => by rw [o5 b (nsub hb (by decide)), l4 b (nsub hb (by decide)), k6 b hb]
          have eth : th Dm5 = th Dm := th_fn (om 36 (by decide))
          have e56 : Rz 768 56 Dm5 = Rz 768 56 Dm2 := Rz_fn (g5 56 (by decide))
          have e57 : Rz 768 57 Dm5 = Rz 768 57 Dm2 := Rz_fn (g5 57 (by decide))
          have hT5 : T0 (th Dm5) (Rz 768 56 Dm5) (Rz 768 57 Dm5) Dc5 Dm5 := by
            rw [eth, e56, e57]
            refine l3.cell (K := k) (p := p) g t (o5 2 (by decide)) (o5 3 (by decide)) (o5 5 (by decide)) (o5 6 (by decide)) (fun b u1 u2 u3 u4 => g5 b (by simp only [List.mem_cons, List.not_mem_nil, or_false]; omega)) (fun i e => ⟨R_cg (g5 38 (by decide)) i, by rw [n41, if_neg e, R_cg (l8 41 (by decide)), R_cg (k7 41 (by decide))]⟩) e40 (fun u e1 e2 => by rw [un5, if_neg e2]) ?_ ?_ ?_ ?_
            · rw [un5, if_neg (by omega), R_cg (g5 38 (by decide)), ← e40]
              exact kc.2.2.1.1
            · rw [un5, if_pos rfl, n41, if_pos rfl]
            · rw [R_cg (g5 38 (by decide))]
              exact kc.2.2.2.1.1
            · rw [n41, if_pos rfl]; exact q
          have hMT : MT Dm5 := by
            refine h.1.2.rights (K := k) (a := o) (b := r) g t ho (fun b hb => om b (by simp only [List.mem_cons, List.not_mem_nil, or_false] at hb ⊢; omega)) (fun i _ _ => n41 i) (fun i _ _ => ?_)
            rw [e57, l12, k11, k11]
            by_cases i1 : i = o
            · rw [if_pos i1, if_neg (fun z => e z.symm), if_neg (show ¬ r = i by omega), if_pos i1.symm, i1]
              omega
            · rw [if_neg i1, if_neg (show ¬ o = i from fun z => i1 z.symm)]
              by_cases i2 : i = r
              · rw [if_pos (show i = r from i2), if_pos (show r = i from i2.symm), i2]
                omega
              · rw [if_neg (show ¬ i = r from i2), if_neg (show ¬ r = i from fun z => i2 z.symm)]
                omega
          have hDy5 : Dy Dc5 Dm5 := fun s u1 u2 => by
            have d1 : bit (Tz 1024 4 Dc2 (p + 4) r 7 5) s = bit (Dc2 7 5) s := by rw [T_ot (by decide)]
            have d2 : Rz 64 58 (Tz 240 41 Dm2 k r) s = Rz 64 58 Dm2 s := R_T_ot (by decide)
            rw [y2.2.2 s u1 u2, d1, l6 s u1 u2, k5 s u1 u2, z2.2 s u1 u2, d2, l7 s u1 u2]
          have o32 : ∀ j, j ≠ 37 → j ≠ 41 → j ≠ 42 → Dm5 32 j = Dm 32 j := fun j j1 j2 j3 => by rw [g5 32 (by decide), l9 j j2, k8 j j1 j3]
          have hhi : HiEq Dm Dm5 := (k10.trans l10).trans ((HiEq.T (n := 240) (a := 41) (m := 80) (by decide) (by omega)).trans (HiEq.ot (fun b u1 u2 => z2.1 b (by omega))))
          have hW5 : Wt Dc5 Dm5 m := h.2.2.1.cong (oc 16 (by decide)) (oc 17 (by decide)) (oc 18 (by decide)) (oc 19 (by decide)) (by rw [oc 15 (by decide)]) (om 59 (by decide)) (om 60 (by decide)) (om 61 (by decide)) (om 62 (by decide)) (om 63 (by decide)) (o32 29 (by decide) (by decide) (by decide))
          obtain ⟨Dc6, Dm6, v1, v2, v3, v4, v5, v6, v7, v8, -⟩ := told_both ⟨hT5, hMT⟩ hDy5 hW5 (by have := h.2.2.2; omega) g (by rw [eth]; exact t) (x := 4) (by omega)
          refine ⟨Dc6, Dm6, o, ?_, ⟨v3, v4, v5⟩, fun b hb => (v6 b hb).trans (oc b (by simp only [List.mem_cons, List.not_mem_nil, or_false]; omega)), (show Om Dm Dm5 from ⟨fun b hb => om b (by simp only [List.mem_cons, List.not_mem_nil, or_false]; omega), fun j _ _ => o32 j (by omega) (by omega) (by omega), hhi⟩).trans v7, Or.inl ⟨?_, by rw [v8, g5 32 (by decide), l9 42 (by decide), k9]⟩⟩
          · have e41 : Rz 240 41 (up2 Dm0 32 42 0) k = o := by
              rw [R_up2_ot (by decide), R_cg k2', ho]
            rw [md Dm0 0 k2 (Or.inl rfl), if_pos rfl, fails0, bnd_ok, w32_k0, if_pos rfl, rdA_R (by omega), e41, w32_of (z := o) (by omega), w32_of hr, if_neg (fun z => e z.symm)]
            refine (k3 (fun D7 => bnd (pM_leavesRights o D7) fun _ D8 => wrA 240 41 k r D8 fun D9 => rdA 240 40 k D9 fun v6 => bnd (pM_writes v6 D9) fun _ D10 => bnd (pM_changes k 4 D10) fun _ D11 => okR o D11)).trans ?_
            rw [l2, bnd_ok, wrA_T (by omega), rdA_R (by omega), R_T_ot (by decide), e40, z1, bnd_ok, v2, bnd_ok]
          · have : pH_requireRoom 1 Dc1 = okR 0 Dc1 := by
              unfold pH_requireRoom
              rw [w32_k1, if_neg (by decide)]
            unfold pI_putUnit at cl
            simp only [gD] at cl
            rw [cl, k1, bnd_ok, this, bnd_ok, l1, bnd_ok, sto_T (by omega), y1, bnd_ok, v1, bnd_ok]
    · refine Ok.err (v := 0) (e := 1) (x := 2) h (by decide) ?_ ?_
      · unfold pM_setRights
        rw [d, bnd_ok]
        simp only [jnR]
        rw [w32_k1, if_neg (by decide), hin, if_neg q, if_pos rfl, failsP (by omega), bnd_ok, w32_k1, if_neg (by decide)]
      · have hq : pH_requireRights r Dc = erR 1 Dc := by
          unfold pH_requireRights
          simp only [jnR]
          rw [w32_of hr]
          by_cases q2 : r < 0
          · rw [if_pos q2]
          · rw [if_neg q2, if_pos (by omega)]
        unfold pH_setRights
        rw [c, bnd_ok, hq, bnd_er]
  · refine Ok.err (v := 0) (e := 0) (x := 1) h (by decide) ?_ ?_
    · unfold pM_setRights
      rw [d, bnd_ok]
      simp only [jnR]
      rw [w32_k0, if_pos rfl, failsP (by omega), bnd_ok, w32_k1, if_neg (by decide)]
    · unfold pH_setRights
      rw [c, bnd_er]
end SETRIGHTS
