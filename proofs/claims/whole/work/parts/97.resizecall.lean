/-! resize, the call -/
section RESIZECALL
variable {Dc Dm : DD} {m : Int}
theorem resize_ok {k x L : Int} (h : St Dc Dm m) (hk : -2147483648 ≤ k ∧ k ≤ 2147483647) (hx : -2147483648 ≤ x ∧ x ≤ 2147483647) (hL : -2147483648 ≤ L ∧ L ≤ 2147483647) : Ok [(0, 1), (1, 2), (2, 3)] Dc Dm m (pH_resize k x L Dc) (pM_resize k x L Dm) := by
  rcases key_both h.1 hk with ⟨g, t, c0, c, d⟩ | ⟨g, c0, c, d⟩
  · obtain ⟨p1, p2, p3⟩ := h.1.place g t
    have hV := (St.kr h.1 g t).2.2.2.2.2.2
    have hT := h.1.1.1.1
    have hsc := h.1.1.1.2.1
    obtain ⟨r, hr, e1, e2⟩ := val_both h.1 g t hx
    rcases hr with ⟨r1, r2⟩ | ⟨r1, r2, r3⟩
    · rw [if_pos r1] at e1 e2
      refine Ok.err (v := 0) (e := 0) (x := 1) h (by decide) ?_ ?_
      · unfold pM_resize
        rw [d, bnd_ok]
        simp only [jnR]
        rw [w32_k1, if_neg (by decide), e2, bnd_ok, w32_m1, if_pos rfl, w32_k0, if_pos rfl, if_pos rfl, failsP (by omega), bnd_ok, w32_k1, if_neg (by decide)]
      · unfold pH_resize pI_placeOfKey pH_requireValue
        simp only [ltR]
        rw [c, bnd_ok, rd_R hk, p1, e1, bnd_ok, w32_k0, if_pos rfl, bnd_er]
    · rw [if_neg (by omega)] at e1 e2
      have hv := hV.vpos hT (by omega) r1 r2
      obtain ⟨a1, a2, a3, a4, a5, -⟩ := hV.2.2.2.1 r r1 r2
      have n8 := hV.1
      have ln := lengthOf_c hV hT (by omega) r1 r2
      have hin : pM_isIn L 0 30 = if 0 ≤ L ∧ L ≤ 30 then 1 else 0 := isIn_m hL (by omega) (by omega)
      have rv : pH_requireValue (vP Dm k r) Dc = okR 0 Dc := by
        unfold pH_requireValue
        rw [w32_of (by omega), if_neg (by omega)]
      have rl : pH_requireLength L Dc = if 0 ≤ L ∧ L ≤ 30 then okR 0 Dc else erR 1 Dc := by
        unfold pH_requireLength
        simp only [jnR]
        rw [w32_of hL]
        by_cases z : L < 0
        · rw [if_pos z, if_neg (by omega)]
        · rw [if_neg z]
          by_cases z2 : 30 < L
          · rw [if_pos z2, if_neg (by omega)]
          · rw [if_neg z2, if_pos (by omega)]
      by_cases q : 0 ≤ L ∧ L ≤ 30
      · obtain ⟨s, s1, s2, s3, s4⟩ := stays_both a2 q
        have hp1 := pcs_bd q
        obtain ⟨L0, hL0⟩ : ∃ L0, vL Dm k r = L0 := ⟨_, rfl⟩
        rw [hL0] at ln s1 s2 s3 s4 a2 a4
        obtain ⟨gc0, gm0, wn0⟩ := wantNothing_both Dc Dm (fun _ => 6)
        have h1 : St (pC_wantNothing Dc) (up2 Dm 32 37 0) m := h.gw gc0 gm0
        obtain ⟨Dc2, Dm2, w1, -, w3, w4, w5, w6⟩ := wantPieces_both q (pcs L - s).toNat fu fu s 0 _ _ _ (fu_gt (by omega)) (fu_gt (by omega)) s1.1 (by omega) wn0 (Int.le_refl _) (by omega)
        have wn2 : Wn Dc2 Dm2 (pcs L - s) (fun i => 2 + upc L (s + i)) := by
          have := w6.cong (v := fun i => 2 + upc L (s + i)) (fun j x1 x2 => by rw [if_neg (by omega), Int.sub_zero])
          rw [show 0 + ((pcs L - s).toNat : Int) = pcs L - s by omega] at this
          exact this
        have h2 : St Dc2 Dm2 m := h1.gw w4 w5
        have gc2 := gc0.trans w4
        have gm2 := gm0.trans w5
        obtain ⟨Dc3, Dm3, ⟨g1, g2, g3, g4⟩, g5, g6, g7, g8, g9⟩ := gets_ok h2 wn2 (by omega)
        have cl : ∀ z, pC_getAllWanted Dc2 = okR z Dc3 → pH_resize k x L Dc = bnd (if (w32 z) = 0 then okR 0 Dc3 else (pV_changeLength_45 s fu (vP Dm k r + 2) 0 Dc3 fun x2 D5 => ltR (pI_unitAt x2 D5) fun x3 => bnd (pV_chainPieces x2 ((pV_pieceCount L) - s) D5) fun _ D6 => bnd (pV_giveBackPieces x3 D6) fun v3 D7 => gD (pV_putHead (vP Dm k r) (Int.tdiv (w32 (pI_unitAt (vP Dm k r + 0) D7)) 31) L D7) fun D8 => bnd (pC_markWritten (vP Dm k r) D8) fun _ D9 => bnd (pC_markWritten (Rz 240 40 Dm k) D9) fun _ D10 => okR 1 D10)) fun v2 D5 => bnd (pH_requireRoom v2 D5) fun _ D6 => bnd (pH_tellUpwards k 2 D6) fun _ D7 => okR L0 D7 := fun z hz => by
          unfold pH_resize pI_placeOfKey pV_changeLength pV_wantPieces
          simp only [ltR, gD]
          rw [c, bnd_ok, rd_R hk, p1, e1, bnd_ok, rv, bnd_ok, rl, if_pos q, bnd_ok, ln, s3, bnd_ok, pieceCount_c q, w1, bnd_ok, hz, bnd_ok]
        have md : ∀ z, pM_gets Dm2 = okR z Dm3 → pM_cannotResize (8 * k + r) L Dm = if (w32 z) = 0 then okR 1 Dm3 else okR 0 Dm3 := fun z hz => by
          unfold pM_cannotResize
          simp only [gD]
          rw [rdA_R (by omega), R_up2_ot (by decide), show Rz 1920 53 Dm (8 * k + r) = L0 from hL0, s4, bnd_ok, w3, hz, bnd_ok]
        rcases g9 with ⟨y1, y2, gg, y3, y4, y5⟩ | ⟨y1, y2, y3⟩
        · have z58 : ∀ b, 35 ≤ b → b ≤ 57 → up2 Dm3 32 42 0 b = Dm b := fun b x1 x2 => by rw [up2_ot (by omega), g7 b (by simp only [List.mem_cons, List.not_mem_nil, or_false]; omega), gm2.1 b (by simp only [List.mem_cons, List.not_mem_nil, or_false]; omega)]
          obtain ⟨D1, Dc', Dm', v1, v2, v3, v4, v5, v6, v7, v8, v9⟩ := resizes_both (k := k) (j := r) (s := s) (L0 := L0) (L' := L) (v := vP Dm k r) (p := Rz 240 40 Dm k) (c := pcs L - s) (g := gg) (m := m) (Dc := Dc3) (Dm := up2 Dm3 32 42 0) g1.thr g (by rw [th_fn (z58 36 (by decide) (by decide))]; exact t) (by rw [Rz_fn (z58 48 (by decide) (by decide))]; exact ⟨r1, r2⟩) (R_cg (z58 54 (by decide) (by decide)) _) ((R_cg (z58 53 (by decide) (by decide)) _).trans hL0) (R_cg (z58 40 (by decide) (by decide)) _) q ⟨s1.1, s1.2.1, s1.2.2⟩ s2 s4 rfl (by rw [up2_nk (by decide)]; exact g8) (fun i x1 x2 => by
              obtain ⟨b1, b2, b3, b4⟩ := y3 i x1 x2
              refine ⟨b1, by rw [R_up2_ot (by decide)]; exact b2, ?_, b4⟩
              rw [th_fn (up2_ot (by decide)), Rz_fn (up2_ot (show (56 : Nat) ≠ 32 by decide)), Rz_fn (up2_ot (show (57 : Nat) ≠ 32 by decide))]
              exact b3.eqv rfl (fun b _ _ => up2_ot (by omega))) y4 (fun t x1 x2 => by rw [R_up2_ot (by decide)]; exact y5 t x1 x2) g2.thr h.2.2.2
          refine ⟨Dc', Dm', L0, ?_, ⟨v4, v5, v6⟩, gc2.oc.trans (g3.trans v7), gm2.om.trans (g4.trans ((Om.thr _ _).trans v8)), Or.inl ⟨?_, by rw [v9, up2_eq]⟩⟩
          · unfold pM_resize
            rw [d, bnd_ok]
            simp only [jnR]
            rw [w32_k1, if_neg (by decide), e2, bnd_ok, w32_of (by omega), if_neg (by omega), if_neg (by decide), e2, bnd_ok, if_neg (by decide), hin, if_pos q, if_neg (by decide), md 1 y2, w32_k1, if_neg (by decide), bnd_ok, w32_k0, if_pos rfl, fails0, bnd_ok, w32_k0, if_pos rfl]
            exact v3
          · rw [cl 1 y1, w32_k1, if_neg (by decide), v1, bnd_ok]
            unfold pH_requireRoom
            rw [w32_k1, if_neg (by decide), bnd_ok, v2, bnd_ok]
        · refine Ok.cannot (v := 0) (e := 2) (x := 3) ⟨g1, y3, g2⟩ (gc2.oc.trans g3) (gm2.om.trans g4) (by decide) ?_ ?_
          · unfold pM_resize
            rw [d, bnd_ok]
            simp only [jnR]
            rw [w32_k1, if_neg (by decide), e2, bnd_ok, w32_of (by omega), if_neg (by omega), if_neg (by decide), e2, bnd_ok, if_neg (by decide), hin, if_pos q, if_neg (by decide), md 0 y2, w32_k0, if_pos rfl, bnd_ok, w32_k1, if_neg (by decide), failsP (by omega), bnd_ok, w32_k1, if_neg (by decide)]
          · rw [cl 0 y1, w32_k0, if_pos rfl, bnd_ok]
            unfold pH_requireRoom
            rw [w32_k0, if_pos rfl, bnd_er]
      · refine Ok.err (v := 0) (e := 1) (x := 2) h (by decide) ?_ ?_
        · unfold pM_resize
          rw [d, bnd_ok]
          simp only [jnR]
          rw [w32_k1, if_neg (by decide), e2, bnd_ok, w32_of (by omega), if_neg (by omega), if_neg (by decide), e2, bnd_ok, if_neg (by decide), hin, if_neg q, if_pos rfl, failsP (by omega), bnd_ok, w32_k1, if_neg (by decide)]
        · unfold pH_resize pI_placeOfKey
          simp only [ltR]
          rw [c, bnd_ok, rd_R hk, p1, e1, bnd_ok, rv, bnd_ok, rl, if_neg q, bnd_er]
  · refine Ok.err (v := 0) (e := 0) (x := 1) h (by decide) ?_ ?_
    · unfold pM_resize
      rw [d, bnd_ok]
      simp only [jnR]
      rw [w32_k0, if_pos rfl, if_pos rfl, if_pos rfl, failsP (by omega), bnd_ok, w32_k1, if_neg (by decide)]
    · unfold pH_resize
      rw [c, bnd_er]
end RESIZECALL
