/-! setValue, the call -/
section SETCALL
variable {Dc Dm : DD} {m : Int}
theorem need_c {k n : Int} (h : Tr Dc Dm) (hk : 0 ≤ k ∧ k < 80) (ht : th Dm k) (hn : Rz 240 48 Dm k = n) (hn8 : n < 8) : pV_wantListForOneMore (Rz 240 40 Dm k) Dc = (if (if n = 0 then 5 else if n = 4 ∧ Rz 240 50 Dm k = 5 then 9 else (0 : Int)) = 0 then Dc else pC_want (if n = 0 then 5 else if n = 4 ∧ Rz 240 50 Dm k = 5 then 9 else 0) Dc) := by
  obtain ⟨p1, p2, p3⟩ := h.place hk ht
  have hkr := St.kr h hk ht
  have hV := hkr.2.2.2.2.2.2
  rw [hn] at hV
  have v8 := hV.1
  have hT := h.1.1.1
  have hsc := h.1.1.2.1
  have u3 : pI_unitAt (Rz 240 40 Dm k + 3) Dc = if n = 0 then 0 else Rz 240 49 Dm k := by
    unfold pI_unitAt
    rw [rd_R (by omega), hV.2.1]
  have vc := valueCount_c hV hT (by omega) (p := Rz 240 40 Dm k) (by omega) rfl
  by_cases e : n = 0
  · rw [if_pos e] at u3
    have need : pV_needsListForOneMore (Rz 240 40 Dm k) Dc = 1 := by
      unfold pV_needsListForOneMore
      simp only [ltR]
      rw [u3, w32_k0, if_pos rfl]
    unfold pV_wantListForOneMore
    simp only [jnR, gD]
    rw [need, if_neg (show ¬ (1 : Int) = 0 by decide), vc, e, w32_k0]
    simp
  · rw [if_neg e] at u3
    obtain ⟨c1, c2, c3, c4, c5⟩ := hV.2.2.1 (by omega)
    have lt := hT.1 (Rz 240 49 Dm k) (by omega)
    have need : pV_needsListForOneMore (Rz 240 40 Dm k) Dc = if n = 4 ∧ Rz 240 50 Dm k = 5 then 1 else 0 := by
      unfold pV_needsListForOneMore pI_itemCount pI_sizeAt
      simp only [ltR]
      rw [u3, w32_of (by omega), if_neg (by omega), rd_R (by omega), c3, rd_R (by omega), c2, w32_of (by omega), w32_of (by omega)]
      by_cases e2 : n = 4 ∧ Rz 240 50 Dm k = 5
      · rw [if_pos (by omega), if_pos e2]
      · rw [if_neg (by omega), if_neg e2]
    unfold pV_wantListForOneMore
    simp only [jnR, gD]
    rw [need, if_neg e]
    by_cases e2 : n = 4 ∧ Rz 240 50 Dm k = 5
    · rw [if_pos e2, if_neg (by decide), vc, w32_of (by omega), if_neg e, if_pos e2, if_neg (by decide)]
    · rw [if_neg e2, if_pos rfl, if_neg e2, if_pos rfl]
theorem setValue_ok {k x L sd : Int} (h : St Dc Dm m) (hk : -2147483648 ≤ k ∧ k ≤ 2147483647) (hx : -2147483648 ≤ x ∧ x ≤ 2147483647) (hL : -2147483648 ≤ L ∧ L ≤ 2147483647) : Ok [(0, 1), (1, 2), (2, 3)] Dc Dm m (pH_setValue k x L sd Dc) (pM_setValue k x L sd Dm) := by
  have hin1 : pM_isIn x 0 99 = if 0 ≤ x ∧ x ≤ 99 then 1 else 0 := isIn_m hx (by omega) (by omega)
  have hin2 : pM_isIn L 0 30 = if 0 ≤ L ∧ L ≤ 30 then 1 else 0 := isIn_m hL (by omega) (by omega)
  rcases key_both h.1 hk with ⟨g, t, c0, c, d⟩ | ⟨g, c0, c, d⟩
  · have rn : pH_requireValueName x Dc = if 0 ≤ x ∧ x ≤ 99 then okR 0 Dc else erR 1 Dc := by
      unfold pH_requireValueName
      simp only [jnR]
      rw [w32_of hx]
      by_cases z : x < 0
      · rw [if_pos z, if_neg (by omega)]
      · rw [if_neg z]
        by_cases z2 : 99 < x
        · rw [if_pos z2, if_neg (by omega)]
        · rw [if_neg z2, if_pos (by omega)]
    have rl : pH_requireLength L Dc = if 0 ≤ L ∧ L ≤ 30 then okR 0 Dc else erR 1 Dc := by
      unfold pH_requireLength
      simp only [jnR]
      rw [w32_of hL]
      by_cases z : L < 0
      · rw [if_pos z, if_neg (by omega)]
      · rw [if_neg z]
        by_cases z2 : 30 < L
        · rw [if_pos z2, if_neg (by omega)]
        · rw [if_neg z2, if_pos (by omega)]
    by_cases q1 : 0 ≤ x ∧ x ≤ 99
    · by_cases q : 0 ≤ L ∧ L ≤ 30
      · obtain ⟨p1, p2, p3⟩ := h.1.place g t
        have hkr := St.kr h.1 g t
        have hV := hkr.2.2.2.2.2.2
        have hT := h.1.1.1.1
        have hsc := h.1.1.1.2.1
        have n8 := hV.1
        have hta := hkr.2.2.2.1.2.2.1
        have nl := noLink_c h.1 g t
        obtain ⟨r, hr, e1, e2⟩ := val_both h.1 g t hx
        have vc := valueCount_c hV hT (by omega) (p := Rz 240 40 Dm k) (by omega) rfl
        have rb : r = -1 ∨ 0 ≤ r ∧ r < Rz 240 48 Dm k := by
          rcases hr with z | z
          · exact Or.inl z.1
          · exact Or.inr ⟨z.1, z.2.1⟩
        have e2b : -2147483648 ≤ (if r = -1 then -1 else 8 * k + r) ∧ (if r = -1 then -1 else 8 * k + r) ≤ 2147483647 := by
          by_cases z : r = -1
          · rw [if_pos z]; omega
          · rw [if_neg z]; omega
        -- the reference, down to cannotSet
        have md : ∀ D1 y, pM_cannotSet k x L Dm = okR y D1 → (y = 0 ∨ y = 1) → pM_setValue k x L sd Dm = bnd (pM_fails (if y = 0 then 0 else 3) D1) fun v2 D4 => if (w32 v2) = 0 then (bnd (pM_writesGot D4) fun _ D5 => bnd (pM_valueOf k x D5) fun v3 D6 => ltR (pM_piecesFor L) fun x3 => jnR (fun (x4 : Int) (x5 : Int) (D7 : DD) => bnd (pM_givesPieces x4 0 D7) fun _ D8 => jnR (fun (D9 : DD) => pM_setValue_231 x4 x3 fu 0 D9 fun D10 => wrA 1920 53 x4 L D10 fun D11 => wrA 1920 52 x4 sd D11 fun D12 => rdA 1920 54 x4 D12 fun v4 => bnd (pM_writes v4 D12) fun _ D13 => rdA 240 40 k D13 fun v5 => bnd (pM_writes v5 D13) fun _ D14 => bnd (pM_changes k 2 D14) fun _ D15 => rdA 240 48 k D15 fun v6 => okR v6 D15) fun J4 => if (w32 x5) = (-1) then J4 D8 else (bnd (pM_gives x5 D8) fun _ D16 => J4 D16)) fun J3 =>
            if (w32 v3) = (-1) then (rdA 240 48 k D6 fun v7 => ltR ((8 * k) + v7) fun x6 => wrA 1920 51 x6 x D6 fun D17 => rdA 8 66 x3 D17 fun v8 => wrA 1920 54 x6 v8 D17 fun D18 => wrA 1920 53 x6 0 D18 fun D19 => bnd (pM_listFor k D19) fun v9 D20 => jnR (fun (x7 : Int) (D21 : DD) => rdA 240 48 k D21 fun v10 => wrA 240 48 k (v10 + 1) D21 fun D22 => rdA 240 49 k D22 fun v11 => bnd (pM_writes v11 D22) fun _ D23 => J3 x6 x7 D23) fun J5 => if 0 < (w32 v9) then (rdA 240 49 k D20 fun v12 => rdA 8 66 (x3 + 1) D20 fun v13 => wrA 240 49 k v13 D20 fun D24 => wrA 240 50 k v9 D24 fun D25 => J5 v12 D25) else J5 (-1) D20) else J3 v3 (-1) D6) else okR 0 D4 := fun D1 y hy hy2 => by
          unfold pM_setValue
          rw [d, bnd_ok]
          simp only [jnR]
          rw [hin1, if_pos q1, if_neg (by decide), hin2, if_pos q, if_neg (by decide), w32_k1, if_neg (by decide), if_neg (by decide), hy, bnd_ok]
          rcases hy2 with z | z
          · subst z
            rw [w32_k0, if_pos rfl, if_pos rfl]
          · subst z
            rw [w32_k1, if_neg (by decide), if_neg (by decide)]
        have cl0 : pH_setValue k x L sd Dc = bnd (pH_requireNoLink k Dc) fun _ D4 => bnd (pV_canHold (Rz 240 40 Dm k) x Dc) fun v1 D5 => if (w32 v1) = 0 then erR 2 D5 else bnd (pV_assign (Rz 240 40 Dm k) x L sd D5) fun v2 D6 => bnd (pH_requireRoom v2 D6) fun _ D7 => bnd (pH_tellUpwards k 2 D7) fun _ D8 => okR (pV_valueCount (Rz 240 40 Dm k) D8) D8 := by
          unfold pH_setValue pI_placeOfKey
          simp only [ltR]
          rw [c, bnd_ok, rn, if_pos q1, bnd_ok, rl, if_pos q, bnd_ok, nl]
          by_cases z : Rz 240 39 Dm k = -1
          · rw [if_pos z, bnd_ok, bnd_ok, rd_R hk, p1]
          · rw [if_neg z, bnd_er, bnd_er]
        -- it cannot be: a link, or full
        by_cases qf : Rz 240 39 Dm k ≠ -1 ∨ (r = -1 ∧ Rz 240 48 Dm k = 8)
        · refine Ok.cannot (v := 0) (e := 2) (x := 3) ⟨h.1, h.2.1, h.2.2.1⟩ (Oc.rf _) (Om.rf _) (by decide) ?_ ?_
          · have : pM_cannotSet k x L Dm = okR 1 Dm := by
              unfold pM_cannotSet
              rw [e2, bnd_ok, rdA_R (by omega), w32_of (z := Rz 240 39 Dm k) (by omega)]
              by_cases z : Rz 240 39 Dm k = -1
              · have z2 : r = -1 ∧ Rz 240 48 Dm k = 8 := by
                  rcases qf with y | y
                  · exact absurd z y
                  · exact y
                simp only [jnR]
                rw [if_pos z, if_pos z2.1, w32_m1, if_pos rfl, rdA_R (by omega), z2.2, if_pos (by decide)]
              · rw [if_neg z]
            rw [md Dm 1 this (Or.inr rfl), if_neg (by decide), failsP (by omega), bnd_ok, w32_k1, if_neg (by decide)]
          · rw [cl0, nl]
            by_cases z : Rz 240 39 Dm k = -1
            · have z2 : r = -1 ∧ Rz 240 48 Dm k = 8 := by
                rcases qf with y | y
                · exact absurd z y
                · exact y
              rw [if_pos z, bnd_ok]
              unfold pV_canHold
              rw [vc, z2.2, if_neg (by decide), e1, if_pos z2.1, bnd_ok, w32_k0, if_pos rfl, bnd_ok, w32_k0, if_pos rfl]
            · rw [if_neg z, bnd_er]
        have q39 : Rz 240 39 Dm k = -1 := by
          by_cases z : Rz 240 39 Dm k = -1
          · exact z
          · exact absurd (Or.inl z) qf
        have q8 : ¬ (r = -1 ∧ Rz 240 48 Dm k = 8) := fun z => qf (Or.inr z)
        rw [if_pos q39] at nl
        rw [nl, bnd_ok] at cl0
        have ch : pV_canHold (Rz 240 40 Dm k) x Dc = okR 1 Dc := by
          unfold pV_canHold
          rw [vc, w32_of (by omega)]
          by_cases z : Rz 240 48 Dm k < 8
          · rw [if_pos z]
          · have zr : ¬ r = -1 := fun y => q8 ⟨y, by omega⟩
            have hv := hV.vpos hT (by omega) (j := r) (by omega) (by omega)
            rw [if_neg z, e1, if_neg zr, bnd_ok, w32_of (by omega), if_neg (by omega)]
        rw [ch, bnd_ok, w32_k1, if_neg (by decide)] at cl0
        have hp1 := pcs_bd q
        -- what is wanted: pieces
        obtain ⟨gc0, gm0, wn0⟩ := wantNothing_both Dc Dm (fun _ => 6)
        obtain ⟨Dc2, Dm2, w1, w2, -, w4, w5, w6⟩ := wantPieces_both q (pcs L).toNat fu fu 0 0 _ _ _ (fu_gt (by omega)) (fu_gt (by omega)) (Int.le_refl _) (by omega) wn0 (Int.le_refl _) (by omega)
        have wn2 : Wn Dc2 Dm2 (pcs L) (fun i => 2 + upc L i) := by
          have := w6.cong (v := fun i => 2 + upc L i) (fun j x1 x2 => by rw [if_neg (by omega), Int.sub_zero, Int.zero_add])
          rw [show 0 + ((pcs L).toNat : Int) = pcs L by omega] at this
          exact this
        have gc2 := gc0.trans w4
        have gm2 := gm0.trans w5
        have h2 : St Dc2 Dm2 m := h.gw gc2 gm2
        have z57 : ∀ b, 33 ≤ b → b ≤ 57 → Dm2 b = Dm b := fun b x1 x2 => gm2.1 b (by simp only [List.mem_cons, List.not_mem_nil, or_false]; omega)
        by_cases qr : r = -1
        · -- a new value
          rw [if_pos qr] at e1 e2
          have hn8 : Rz 240 48 Dm k < 8 := by
            by_cases z : Rz 240 48 Dm k = 8
            · exact absurd ⟨qr, z⟩ q8
            · omega
          have hnew : ∀ j, 0 ≤ j → j < Rz 240 48 Dm k → vN Dm k j ≠ x := by
            rcases hr with z | z
            · exact z.2
            · omega
          obtain ⟨lf, hlf⟩ : ∃ lf : Int, lf = if Rz 240 48 Dm k = 0 then 5 else if Rz 240 48 Dm k = 4 ∧ Rz 240 50 Dm k = 5 then 9 else 0 := ⟨_, rfl⟩
          have lfb : lf = 0 ∨ lf = 5 ∨ lf = 9 := by
            rw [hlf]
            by_cases z : Rz 240 48 Dm k = 0
            · rw [if_pos z]; omega
            · rw [if_neg z]
              by_cases z2 : Rz 240 48 Dm k = 4 ∧ Rz 240 50 Dm k = 5
              · rw [if_pos z2]; omega
              · rw [if_neg z2]; omega
          obtain ⟨Dm3, k1, k2, k3, k4⟩ := want_both wn2 ⟨by omega, by omega⟩ (n := 3) (by omega)
          have h3 : St (pC_want 3 Dc2) Dm3 m := h2.gw k2 k3
          have gm3 := gm2.trans k3
          have gc3 := gc2.trans k2
          have y57 : ∀ b, 33 ≤ b → b ≤ 57 → Dm3 b = Dm b := fun b x1 x2 => gm3.1 b (by simp only [List.mem_cons, List.not_mem_nil, or_false]; omega)
          have t3 : th Dm3 k := by
            have := th_fn (y57 36 (by decide) (by decide))
            rw [this]; exact t
          have wl := need_c (n := Rz 240 48 Dm k) h3.1 g t3 (R_cg (y57 48 (by decide) (by decide)) k) hn8
          rw [R_cg (y57 50 (by decide) (by decide)), R_cg (y57 40 (by decide) (by decide)), ← hlf] at wl
          have lfm : pM_listFor k Dm3 = okR lf Dm3 := by
            rw [hlf]
            refine listFor_m g (R_cg (y57 48 (by decide) (by decide)) k) n8 ⟨fun e => by rw [R_cg (y57 49 (by decide) (by decide))]; exact hkr.2.2.2.1.2.2.2 e, fun e => ?_⟩ (fun e => ⟨R_cg (y57 50 (by decide) (by decide)) k, (hV.2.2.1 e).1⟩)
            rw [R_cg (y57 49 (by decide) (by decide))]
            have := hV.lpos hT (by omega) e
            have := (hV.2.2.1 e).1
            omega
          obtain ⟨Dc4, Dm4, c4, w, j1, j2, j3, j4, j5, j6, j7, j8⟩ : ∃ Dc4 Dm4 c w, pV_wantListForOneMore (Rz 240 40 Dm k) (pC_want 3 Dc2) = Dc4 ∧ (∀ J : DD → Res, (bnd (pM_listFor k Dm3) fun v4 D8 => if 0 < (w32 v4) then (bnd (pM_listFor k D8) fun v5 D9 => bnd (pM_wants v5 D9) fun _ D10 => J D10) else J D8) = J Dm4) ∧ Gc Dc Dc4 ∧ Gm Dm Dm4 ∧ Wn Dc4 Dm4 c w ∧ ((lf = 0 ∧ c = pcs L + 1) ∨ (0 < lf ∧ c = pcs L + 2 ∧ w (pcs L + 1) = lf)) ∧ (∀ i, 0 ≤ i → i < pcs L → w i = 2 + upc L i) ∧ w (pcs L) = 3 := by
            by_cases z : lf = 0
            · refine ⟨_, Dm3, pcs L + 1, fun i => if i = pcs L then 3 else 2 + upc L i, rfl, fun J => ?_, ?_, gm3, ?_, Or.inl ⟨z, rfl⟩, ?_, ?_⟩
              · rw [lfm, bnd_ok, z, w32_k0, if_neg (by decide)]
              · rw [wl, if_pos z]; exact gc3
              · rw [wl, if_pos z]; exact k4
              · intro i i1 i2; dsimp only; rw [if_neg (by omega)]
              · dsimp only; rw [if_pos rfl]
            · obtain ⟨Dm4, l1, l2, l3, l4⟩ := want_both k4 ⟨by omega, by omega⟩ (n := lf) (by omega)
              refine ⟨_, Dm4, pcs L + 2, fun i => if i = pcs L + 1 then lf else if i = pcs L then 3 else 2 + upc L i, rfl, fun J => ?_, ?_, gm3.trans l3, ?_, Or.inr ⟨by omega, rfl, ?_⟩, ?_, ?_⟩
              · rw [lfm, bnd_ok, w32_of (by omega), if_pos (by omega), lfm, bnd_ok, l1, bnd_ok]
              · rw [wl, if_neg z]; exact gc3.trans l2
              · rw [wl, if_neg z, show pcs L + 2 = pcs L + 1 + 1 by omega]; exact l4
              · dsimp only; rw [if_pos rfl]
              · intro i i1 i2; dsimp only; rw [if_neg (by omega), if_neg (by omega)]
              · dsimp only; rw [if_neg (by omega), if_pos rfl]
          have h4 : St Dc4 Dm4 m := h.gw j3 j4
          obtain ⟨Dc5, Dm5, ⟨g1, g2, g3, g4⟩, g5, g6, g7, g8, g9⟩ := gets_ok h4 j5 (by omega)
          have cs : ∀ y, pM_gets Dm4 = okR y Dm5 → pM_cannotSet k x L Dm = if (w32 y) = 0 then okR 1 Dm5 else okR 0 Dm5 := fun y hy => by
            unfold pM_cannotSet
            simp only [jnR, gD]
            rw [e2, bnd_ok, rdA_R (by omega), q39, w32_m1, if_pos rfl, if_pos rfl, rdA_R (by omega), w32_of (z := Rz 240 48 Dm k) (by omega), if_neg (by omega), w2, if_pos rfl, k1, bnd_ok, if_pos rfl]
            refine (j2 _).trans ?_
            rw [hy, bnd_ok]
          have as : ∀ y, pC_getAllWanted Dc4 = okR y Dc5 → pV_assign (Rz 240 40 Dm k) x L sd Dc = if (w32 y) = 0 then okR 0 Dc5 else (bnd (pV_addToList (Rz 240 40 Dm k) (pC_got (pcs L) Dc5) (pC_got (pcs L + 1) Dc5) Dc5) fun _ D14 => gD (pV_putHead (pC_got (pcs L) Dc5) x L D14) fun D8 => gD (pI_putUnit (pC_got (pcs L) Dc5 + 1) sd D8) fun D9 => bnd (pV_chainPieces (pC_got (pcs L) Dc5 + 2) (pcs L) D9) fun _ D10 => bnd (pV_giveBackPieces 0 D10) fun v3 D11 => bnd (pC_markWritten (pC_got (pcs L) Dc5) D11) fun _ D12 => bnd (pC_markWritten (Rz 240 40 Dm k) D12) fun _ D13 => okR 1 D13) := fun y hy => by
            unfold pV_assign pV_wantPieces
            simp only [jnR, gD, ltR]
            rw [e1, bnd_ok, w32_k0, if_pos rfl, pieceCount_c q, w1, bnd_ok, w32_k1, if_neg (by decide), j1, hy, bnd_ok, if_neg (show ¬ (1 : Int) = 0 by decide)]
          rcases g9 with ⟨y1, y2, gg, y3, y4, y5⟩ | ⟨y1, y2, y3⟩
          · have z58 : ∀ b, 35 ≤ b → b ≤ 57 → up2 Dm5 32 42 0 b = Dm b := fun b x1 x2 => by rw [up2_ot (by omega), g7 b (by simp only [List.mem_cons, List.not_mem_nil, or_false]; omega), j4.1 b (by simp only [List.mem_cons, List.not_mem_nil, or_false]; omega)]
            have hvN : vN (up2 Dm5 32 42 0) = vN Dm := by funext a b; exact R_cg (z58 51 (by decide) (by decide)) _
            obtain ⟨D1, Dc', E1, Dm', v1, v2, v3, v3', v4, v5, v6, v7, v8, v9, v10, v11, v12, v13⟩ := sets_new (k := k) (n := Rz 240 48 Dm k) (x := x) (L := L) (P := pcs L) (p := Rz 240 40 Dm k) (c := c4) (sd' := sd) (lf := lf) (g := gg) (w := w) (m := m) (Dc := Dc5) (Dm := up2 Dm5 32 42 0) g1.thr g (by rw [th_fn (z58 36 (by decide) (by decide))]; exact t) (R_cg (z58 48 (by decide) (by decide)) _) hn8 (by rw [R_cg (z58 39 (by decide) (by decide))]; exact q39) (R_cg (z58 40 (by decide) (by decide)) _) q1 (by rw [hvN]; exact hnew) q rfl (by rw [R_cg (z58 50 (by decide) (by decide))]; exact hlf) j6 j7 j8 (by rw [up2_nk (by decide)]; exact g8) (fun i x1 x2 => by
                obtain ⟨b1, b2, b3, b4⟩ := y3 i x1 x2
                refine ⟨b1, by rw [R_up2_ot (by decide)]; exact b2, ?_, b4⟩
                rw [th_fn (up2_ot (by decide)), Rz_fn (up2_ot (show (56 : Nat) ≠ 32 by decide)), Rz_fn (up2_ot (show (57 : Nat) ≠ 32 by decide))]
                exact b3.eqv rfl (fun b _ _ => up2_ot (by omega))) y4 (fun t x1 x2 => by rw [R_up2_ot (by decide)]; exact y5 t x1 x2) g2.thr h.2.2.2
            have kr' := (St.kr v5 g v13)
            have pl' := v5.place g v13
            have vc' := valueCount_c kr'.2.2.2.2.2.2 v5.1.1.1 (by have := v5.1.1.2.1; omega) (p := Rz 240 40 Dm' k) (by omega) rfl
            rw [v12, v11] at vc'
            refine ⟨Dc', Dm', Rz 240 48 Dm k + 1, ?_, ⟨v5, v6, v7⟩, j3.oc.trans (g3.trans v8), j4.om.trans (g4.trans ((Om.thr _ _).trans v9)), Or.inl ⟨?_, by rw [v10, up2_eq]⟩⟩
            · rw [md Dm5 0 (by rw [cs 1 y2, w32_k1, if_neg (by decide)]) (Or.inl rfl), if_pos rfl, fails0, bnd_ok, w32_k0, if_pos rfl, v3, bnd_ok]
              have ev : pM_valueOf k x E1 = okR (-1) E1 := by
                have z48 : Rz 240 48 E1 k = Rz 240 48 Dm k := by rw [R_cg (v3' 48 (by decide)), R_cg (z58 48 (by decide) (by decide))]
                have hvE : vN E1 = vN Dm := by rw [← hvN]; funext a b; exact R_cg (v3' 51 (by decide)) _
                have := valueOf_m (D := E1) (r := -1) g z48 n8 (by rw [hvE]; exact fun j a b => (hV.2.2.2.1 j a b).1) (by rw [hvE]; exact hV.2.2.2.2) hx (Or.inl ⟨rfl, by rw [hvE]; exact hnew⟩)
                rw [if_pos rfl] at this
                exact this
              simp only [ltR]
              rw [ev, bnd_ok, piecesFor_m q]
              have z48 : Rz 240 48 E1 k = Rz 240 48 Dm k := by rw [R_cg (v3' 48 (by decide)), R_cg (z58 48 (by decide) (by decide))]
              simp only [jnR] at v4 ⊢
              rw [w32_m1, if_pos rfl, rdA_R (by omega), z48]
              exact v4
            · rw [cl0, as 1 y1, w32_k1, if_neg (by decide), v1, bnd_ok]
              unfold pH_requireRoom
              rw [w32_k1, if_neg (by decide), bnd_ok, v2, bnd_ok, vc']
          · refine Ok.cannot (v := 0) (e := 2) (x := 3) ⟨g1, y3, g2⟩ (j3.oc.trans g3) (j4.om.trans g4) (by decide) ?_ ?_
            · rw [md Dm5 1 (by rw [cs 0 y2, w32_k0, if_pos rfl]) (Or.inr rfl), if_neg (by decide), failsP (by omega), bnd_ok, w32_k1, if_neg (by decide)]
            · rw [cl0, as 0 y1, w32_k0, if_pos rfl, bnd_ok]
              unfold pH_requireRoom
              rw [w32_k0, if_pos rfl, bnd_er]
        · -- an old value
          rw [if_neg qr] at e1 e2
          have hrr : 0 ≤ r ∧ r < Rz 240 48 Dm k ∧ vN Dm k r = x := by
            rcases hr with z | z
            · exact absurd z.1 qr
            · exact z
          have hv := hV.vpos hT (by omega) (j := r) (by omega) (by omega)
          obtain ⟨Dc5, Dm5, ⟨g1, g2, g3, g4⟩, g5, g6, g7, g8, g9⟩ := gets_ok h2 wn2 (by omega)
          have cs : ∀ y, pM_gets Dm2 = okR y Dm5 → pM_cannotSet k x L Dm = if (w32 y) = 0 then okR 1 Dm5 else okR 0 Dm5 := fun y hy => by
            unfold pM_cannotSet
            simp only [jnR, gD]
            rw [e2, bnd_ok, rdA_R (by omega), q39, w32_m1, if_pos rfl, w32_of (z := 8 * k + r) (by omega), if_neg (by omega), w2, if_neg (by omega), if_neg (by omega), hy, bnd_ok]
          have as : ∀ y, pC_getAllWanted Dc2 = okR y Dc5 → pV_assign (Rz 240 40 Dm k) x L sd Dc = if (w32 y) = 0 then okR 0 Dc5 else (gD (pV_putHead (vP Dm k r) x L Dc5) fun D8 => gD (pI_putUnit (vP Dm k r + 1) sd D8) fun D9 => bnd (pV_chainPieces (vP Dm k r + 2) (pcs L) D9) fun _ D10 => bnd (pV_giveBackPieces (pI_unitAt (vP Dm k r + 2) Dc5) D10) fun v3 D11 => bnd (pC_markWritten (vP Dm k r) D11) fun _ D12 => bnd (pC_markWritten (Rz 240 40 Dm k) D12) fun _ D13 => okR 1 D13) := fun y hy => by
            unfold pV_assign pV_wantPieces
            simp only [jnR, gD, ltR]
            rw [e1, bnd_ok, w32_of (z := vP Dm k r) (by omega), if_neg (by omega), pieceCount_c q, w1, bnd_ok, w32_k0, if_pos rfl, hy, bnd_ok, if_pos rfl]
          rcases g9 with ⟨y1, y2, gg, y3, y4, y5⟩ | ⟨y1, y2, y3⟩
          · have z58 : ∀ b, 35 ≤ b → b ≤ 57 → up2 Dm5 32 42 0 b = Dm b := fun b x1 x2 => by rw [up2_ot (by omega), g7 b (by simp only [List.mem_cons, List.not_mem_nil, or_false]; omega), z57 b (by omega) (by omega)]
            have hvN : vN (up2 Dm5 32 42 0) = vN Dm := by funext a b; exact R_cg (z58 51 (by decide) (by decide)) _
            obtain ⟨D1, Dc', E1, Dm', v1, v2, v3, v3', v4, v5, v6, v7, v8, v9, v10, v11, v12, v13⟩ := sets_old (k := k) (j := r) (L0 := vL Dm k r) (L' := L) (v := vP Dm k r) (p := Rz 240 40 Dm k) (c := pcs L) (sd' := sd) (x5 := Rz 1024 4 Dc5 (vP Dm k r + 2)) (g := gg) (m := m) (Dc := Dc5) (Dm := up2 Dm5 32 42 0) g1.thr g (by rw [th_fn (z58 36 (by decide) (by decide))]; exact t) (by rw [R_cg (z58 48 (by decide) (by decide))]; exact ⟨hrr.1, hrr.2.1⟩) (R_cg (z58 54 (by decide) (by decide)) _) (R_cg (z58 53 (by decide) (by decide)) _) (R_cg (z58 40 (by decide) (by decide)) _) q rfl rfl (by rw [up2_nk (by decide)]; exact g8) (fun i x1 x2 => by
                obtain ⟨b1, b2, b3, b4⟩ := y3 i x1 x2
                refine ⟨b1, by rw [R_up2_ot (by decide)]; exact b2, ?_, b4⟩
                rw [th_fn (up2_ot (by decide)), Rz_fn (up2_ot (show (56 : Nat) ≠ 32 by decide)), Rz_fn (up2_ot (show (57 : Nat) ≠ 32 by decide))]
                exact b3.eqv rfl (fun b _ _ => up2_ot (by omega))) y4 (fun t x1 x2 => by rw [R_up2_ot (by decide)]; exact y5 t x1 x2) g2.thr h.2.2.2
            rw [hvN, hrr.2.2] at v1
            rw [R_cg (z58 48 (by decide) (by decide))] at v4 v11
            have kr' := (St.kr v5 g v13)
            have pl' := v5.place g v13
            have vc' := valueCount_c kr'.2.2.2.2.2.2 v5.1.1.1 (by have := v5.1.1.2.1; omega) (p := Rz 240 40 Dm' k) (by omega) rfl
            rw [v12, v11] at vc'
            refine ⟨Dc', Dm', Rz 240 48 Dm k, ?_, ⟨v5, v6, v7⟩, gc2.oc.trans (g3.trans v8), gm2.om.trans (g4.trans ((Om.thr _ _).trans v9)), Or.inl ⟨?_, by rw [v10, up2_eq]⟩⟩
            · rw [md Dm5 0 (by rw [cs 1 y2, w32_k1, if_neg (by decide)]) (Or.inl rfl), if_pos rfl, fails0, bnd_ok, w32_k0, if_pos rfl, v3, bnd_ok]
              have ev : pM_valueOf k x E1 = okR (8 * k + r) E1 := by
                have z48 : Rz 240 48 E1 k = Rz 240 48 Dm k := by rw [R_cg (v3' 48 (by decide)), R_cg (z58 48 (by decide) (by decide))]
                have hvE : vN E1 = vN Dm := by rw [← hvN]; funext a b; exact R_cg (v3' 51 (by decide)) _
                have := valueOf_m (D := E1) (r := r) g z48 n8 (by rw [hvE]; exact fun j a b => (hV.2.2.2.1 j a b).1) (by rw [hvE]; exact hV.2.2.2.2) hx (Or.inr ⟨hrr.1, hrr.2.1, by rw [hvE]; exact hrr.2.2⟩)
                rw [if_neg (by omega)] at this
                exact this
              simp only [ltR]
              rw [ev, bnd_ok, piecesFor_m q]
              simp only [jnR] at v4 ⊢
              rw [w32_of (z := 8 * k + r) (by omega), if_neg (show ¬ 8 * k + r = -1 by omega), w32_m1]
              simp only [eq_self, if_true]
              exact v4
            · rw [cl0, as 1 y1, w32_k1, if_neg (by decide)]
              have e0 : pI_unitAt (vP Dm k r + 2) Dc5 = Rz 1024 4 Dc5 (vP Dm k r + 2) := by
                unfold pI_unitAt
                rw [rd_R (by omega)]
              rw [e0, v1, bnd_ok]
              unfold pH_requireRoom
              rw [w32_k1, if_neg (by decide), bnd_ok, v2, bnd_ok, vc']
          · refine Ok.cannot (v := 0) (e := 2) (x := 3) ⟨g1, y3, g2⟩ (gc2.oc.trans g3) (gm2.om.trans g4) (by decide) ?_ ?_
            · rw [md Dm5 1 (by rw [cs 0 y2, w32_k0, if_pos rfl]) (Or.inr rfl), if_neg (by decide), failsP (by omega), bnd_ok, w32_k1, if_neg (by decide)]
            · rw [cl0, as 0 y1, w32_k0, if_pos rfl, bnd_ok]
              unfold pH_requireRoom
              rw [w32_k0, if_pos rfl, bnd_er]
      · refine Ok.err (v := 0) (e := 1) (x := 2) h (by decide) ?_ ?_
        · unfold pM_setValue
          rw [d, bnd_ok]
          simp only [jnR]
          rw [hin1, if_pos q1, if_neg (by decide), hin2, if_neg q, if_pos rfl, w32_k1, if_neg (by decide), w32_k0, if_pos rfl, failsP (by omega), bnd_ok, w32_k1, if_neg (by decide)]
        · unfold pH_setValue
          rw [c, bnd_ok, rn, if_pos q1, bnd_ok, rl, if_neg q, bnd_er]
    · refine Ok.err (v := 0) (e := 1) (x := 2) h (by decide) ?_ ?_
      · unfold pM_setValue
        rw [d, bnd_ok]
        simp only [jnR]
        rw [hin1, if_neg q1, if_pos rfl, w32_k1, if_neg (by decide), w32_k0, if_pos rfl, failsP (by omega), bnd_ok, w32_k1, if_neg (by decide)]
      · unfold pH_setValue
        rw [c, bnd_ok, rn, if_neg q1, bnd_er]
  · refine Ok.err (v := 0) (e := 0) (x := 1) h (by decide) ?_ ?_
    · unfold pM_setValue
      rw [d, bnd_ok]
      simp only [jnR]
      have fp := failsP (x := 1) (by omega) Dm
      simp only [w32_k0, eq_self, if_true, fp, bnd_ok, w32_k1, if_neg (show ¬ (1 : Int) = 0 by decide)]
      split
      · rfl
      · split <;> rfl
    · unfold pH_setValue
      rw [c, bnd_er]
end SETCALL
