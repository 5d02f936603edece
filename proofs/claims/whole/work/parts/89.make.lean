/-! make, makeLink -/
section MAKE
variable {Dc Dm Dc' Dm' : DD} {m : Int}
theorem MT.eq35 {D D' : DD} (h : MT D) (hm : ∀ b, 35 ≤ b → b ≤ 57 → D' b = D b) : MT D' := by
  unfold MT mc me mn_ Rz at h ⊢
  rw [hm 35 (by omega) (by omega), hm 36 (by omega) (by omega), hm 37 (by omega) (by omega), hm 38 (by omega) (by omega), hm 39 (by omega) (by omega), hm 41 (by omega) (by omega), hm 42 (by omega) (by omega), hm 45 (by omega) (by omega), hm 46 (by omega) (by omega), hm 47 (by omega) (by omega), hm 57 (by omega) (by omega)]
  exact h
theorem St.gw (h : St Dc Dm m) (gc : Gc Dc Dc') (gm : Gm Dm Dm') : St Dc' Dm' m :=
  ⟨h.1.eqv (fun b x y => gc.1 b (by simp only [List.mem_cons, List.not_mem_nil, or_false]; omega)) (fun b x y => gm.1 b (by simp only [List.mem_cons, List.not_mem_nil, or_false]; omega)),
   h.2.1.cong (gc.2 5 (by decide)) (gm.1 58 (by decide)),
   h.2.2.1.cong (gc.1 16 (by decide)) (gc.1 17 (by decide)) (gc.1 18 (by decide)) (gc.1 19 (by decide)) (by rw [gc.1 15 (by decide)]) (gm.1 59 (by decide)) (gm.1 60 (by decide)) (gm.1 61 (by decide)) (gm.1 62 (by decide)) (gm.1 63 (by decide)) (gm.2 29 (by decide)), h.2.2.2⟩
theorem Gc.oc (g : Gc Dc Dc') : Oc Dc Dc' := fun b hb => g.1 b (by simp only [List.mem_cons, List.not_mem_nil, or_false]; omega)
theorem Gm.om (g : Gm Dm Dm') : Om Dm Dm' := ⟨fun b hb => g.1 b (by simp only [List.mem_cons, List.not_mem_nil, or_false]; omega), fun j _ _ => g.2 j (by omega), g.hi⟩
/-- all wanted is got, or nothing; the state stays in relation -/
theorem gets_ok {c : Int} {w : Int → Int} (h : St Dc Dm m) (hW : Wn Dc Dm c w) (hc : 0 ≤ c ∧ c ≤ 6) : ∃ Dc' Dm', (Tr Dc' Dm' ∧ Wt Dc' Dm' m ∧ Oc Dc Dc' ∧ Om Dm Dm') ∧ (∀ b, b ∉ [2, 3, 7, 9, 10] → Dc' b = Dc b) ∧ Dc' 2 5 = Dc 2 5 ∧ (∀ b, b ∉ [33, 34, 66, 67] → Dm' b = Dm b) ∧ Dm' 32 37 = c ∧
    ((pC_getAllWanted Dc = okR 1 Dc' ∧ pM_gets Dm = okR 1 Dm' ∧ ∃ g : Int → Int, (∀ i, 0 ≤ i → i < c → Rz 6 9 Dc' i = g i ∧ Rz 8 66 Dm' i = g i ∧ Fs (th Dm') (Rz 768 56 Dm') (Rz 768 57 Dm') Dc' Dm' (g i) (w i) ∧ (4 ≤ g i ∧ g i + w i ≤ 1024)) ∧ (∀ i j, 0 ≤ i → i < j → j < c → g i ≠ g j) ∧
      ∀ t, 0 ≤ t → t < 64 → (bit (Dc' 7 5) t = true ↔ w32 (Rz 64 58 Dm' t) ≠ 0 ∨ ∃ i, 0 ≤ i ∧ i < c ∧ sec (g i) (w i) t)) ∨
     (pC_getAllWanted Dc = okR 0 Dc' ∧ pM_gets Dm = okR 0 Dm' ∧ Dy Dc' Dm')) := by
  obtain ⟨⟨h1, h2⟩, hD, hWt, -⟩ := h
  obtain ⟨Dc', Dm', k1, k2, k3, k4, k5, k6, k7⟩ := h1.gets hW hc
  have e36 : th Dm' = th Dm := th_fn (k5 36 (by decide))
  have e56 : Rz 768 56 Dm' = Rz 768 56 Dm := Rz_fn (k5 56 (by decide))
  have e57 : Rz 768 57 Dm' = Rz 768 57 Dm := Rz_fn (k5 57 (by decide))
  refine ⟨Dc', Dm', ⟨⟨by rw [e36, e56, e57]; exact k1, h2.eq35 (fun b x y => k5 b (by simp only [List.mem_cons, List.not_mem_nil, or_false]; omega))⟩, hWt.cong (k2 16 (by decide)) (k2 17 (by decide)) (k2 18 (by decide)) (k2 19 (by decide)) (by rw [k2 15 (by decide)]) (k5 59 (by decide)) (k5 60 (by decide)) (k5 61 (by decide)) (k5 62 (by decide)) (k5 63 (by decide)) (by rw [k5 32 (by decide)]),
    fun b hb => k2 b (by simp only [List.mem_cons, List.not_mem_nil, or_false]; omega), fun b hb => k5 b (by simp only [List.mem_cons, List.not_mem_nil, or_false]; omega), fun j _ _ => by rw [k5 32 (by decide)], k6⟩, k2, k3, k5, by rw [k5 32 (by decide)]; exact hW.2.1, ?_⟩
  rcases k7 with ⟨q1, q2, g, q3, q4, q5⟩ | ⟨q1, q2, q3⟩
  · refine Or.inl ⟨q1, q2, g, fun i a b => ?_, q4, fun t a b => ?_⟩
    · rw [e36, e56, e57]
      exact q3 i a b
    · rw [q5 t a b, hD t a b, R_cg (k5 58 (by decide))]
  · exact Or.inr ⟨q1, q2, hD.cong q3 (k5 58 (by decide))⟩
theorem leafFor_eqv {D D' : DD} {k x L : Int} (hk : 0 ≤ k ∧ k < 80) (hW : MW D k) (hx : 0 ≤ x ∧ x ≤ 9999) (hnew : ∀ j, 0 ≤ j → j < sm (mc D k) (Rz 240 42 D k) → mn_ D k j ≠ x) (hm : ∀ b, b ∈ [42, 45, 46, 47] → D' b = D b) (h : pM_leafFor k x D = okR L D) : pM_leafFor k x D' = okR L D' := by
  have hmc : mc D' = mc D := by funext a b; exact R_cg (hm 45 (by decide)) _
  have hme : me D' = me D := by funext a b; exact R_cg (hm 46 (by decide)) _
  have hmn : mn_ D' = mn_ D := by funext a b; exact R_cg (hm 47 (by decide)) _
  have hmE : mE D' = mE D := by funext a b; unfold mE; rw [hme, hmn]
  have e42 : Rz 240 42 D' = Rz 240 42 D := Rz_fn (hm 42 (by decide))
  have hW2 : MW D' k := by
    unfold MW at hW ⊢
    rw [hmc, hme, hmn, e42]
    exact hW
  obtain ⟨L0, s1, s2, s3⟩ := spot_L hk hW hx hnew
  obtain ⟨L2, t1, t2, t3⟩ := spot_L (Dm := D') hk hW2 hx (by rw [hmc, hmn, e42]; exact hnew)
  have e2 := t3 0 (by omega) (by omega)
  rw [hmc, hmE, e42] at e2
  rw [t1, e2.uniq (s3 0 (by omega) (by omega)), leafFor_det s1 h]
/-- a call that cannot be -/
theorem Ok.cannot {L : List (Nat × Int)} {Dc Dm Dc' Dm' : DD} {rc rm : Res} {v : Int} {e : Nat} {x : Int} (hS : Tr Dc' Dm' ∧ Dy Dc' Dm' ∧ Wt Dc' Dm' m) (hO : Oc Dc Dc') (hM : Om Dm Dm') (hL : (e, x) ∈ L) (hm : rm = okR v (up2 Dm' 32 42 x)) (hc : rc = erR e Dc') : Ok L Dc Dm m rc rm :=
  ⟨Dc', _, v, hm, ⟨hS.1.thr, hS.2.1.thr, hS.2.2.thr.mono (by omega)⟩, hO, hM.trans (Om.thr _ _), Or.inr ⟨(e, x), hL, hc, up2_eq ..⟩⟩
theorem mk_core {k x ta : Int} (h : St Dc Dm m) (hk : 0 ≤ k ∧ k < 80) (ht : th Dm k) (hx : 0 ≤ x ∧ x ≤ 9999) (hta : ta = -1 ∨ (0 ≤ ta ∧ ta < 80)) :
    (∃ Dc' Dm', pH_makeSubkey k x ta Dc = erR 2 Dc' ∧ pM_cannotMake k x Dm = okR 1 Dm' ∧ (Tr Dc' Dm' ∧ Dy Dc' Dm' ∧ Wt Dc' Dm' m) ∧ Oc Dc Dc' ∧ Om Dm Dm') ∨
    (∃ Dc' Dm1 Dm' v, pH_makeSubkey k x ta Dc = okR v Dc' ∧ pM_cannotMake k x Dm = okR 0 Dm1 ∧ pM_makes k x ta (up2 Dm1 32 42 0) = okR v Dm' ∧ Tr Dc' Dm' ∧ Dy Dc' Dm' ∧ Wt Dc' Dm' (m + 80) ∧ Oc Dc Dc' ∧ Om Dm Dm' ∧ Dm' 32 42 = 0) := by
  have hkr := St.kr h.1 hk ht
  obtain ⟨p1, p2, p3⟩ := h.1.place hk ht
  have hta39 := hkr.2.2.2.1.2.2.1
  have hW0 := hkr.2.2.2.2.2.1
  have n8 := hW0.1
  have nl := noLink_c h.1 hk ht
  obtain ⟨K, hK⟩ : ∃ K, Dm 35 0 = K := ⟨_, rfl⟩
  have hKb := h.1.2.1
  rw [hK] at hKb
  have hK2 : Dc 2 5 = K := h.1.1.2.1.trans hK
  have cl1 : ∀ r, pH_requireNoLink k Dc = r → pH_makeSubkey k x ta Dc = bnd r fun _ D1 => bnd (pH_requireNameFree (Rz 240 40 Dm k) x D1) fun _ D2 => if K < 80 then (bnd (pL_wantFor (Rz 240 40 Dm k) (rk x * 80 + K) (pC_want 6 (pC_wantNothing D2))) fun v1 D5 => bnd (pH_requireListNotFull v1 D5) fun _ D6 => bnd (pC_getAllWanted D6) fun v2 D7 => bnd (pH_requireRoom v2 D7) fun _ D8 =>
      gD (pH_enterKey (pC_got 0 D8) x k ta D8) fun D9 => gD (pI_putUnit (pC_got 0 D8 + 4) (pI_unitAt (Rz 240 40 Dm k + 4) D8) D9) fun D10 => bnd (pS_changeCount (pI_unitAt (Rz 240 40 Dm k + 4) D8) 1 D10) fun _ D11 => bnd (pL_putIn (Rz 240 40 Dm k) (rk x * 80 + K) 1 D11) fun _ D12 => bnd (pH_tellUpwards k 1 D12) fun _ D13 => okR K D13) else erR 2 D2 := fun r hr => by
    unfold pH_makeSubkey pI_placeOfKey pL_entryOf
    simp only [ltR, gD]
    rw [hr, rd_R (by omega), p1, hK2, rank_c hx, w32_of (z := K) (by omega)]
  by_cases q1 : Rz 240 39 Dm k = -1
  rotate_left
  · rw [if_neg q1] at nl
    refine Or.inl ⟨Dc, Dm, by rw [cl1 _ nl, bnd_er], ?_, ⟨h.1, h.2.1, h.2.2.1⟩, Oc.rf _, Om.rf _⟩
    unfold pM_cannotMake
    rw [rdA_R (by omega), w32_of (by omega), if_neg q1]
  rw [if_pos q1] at nl
  obtain ⟨r, hr, nf, eo, rb⟩ := named_both h.1 hk ht hx
  have m1 : pM_cannotMake k x Dm = if r = -1 then (bnd (pM_isFull k x Dm) fun v3 D2 => if (w32 v3) = 0 then (if (w32 (D2 35 0)) = 80 then okR 1 D2 else gD (up2 D2 32 37 0) fun D3 => bnd (pM_wants 6 D3) fun _ D4 => bnd (pM_wantsEntry k x D4) fun _ D5 => bnd (pM_gets D5) fun v4 D6 => if (w32 v4) = 0 then okR 1 D6 else okR 0 D6) else okR 1 D2) else okR 1 Dm := by
    unfold pM_cannotMake
    rw [rdA_R (by omega), q1, w32_m1, if_pos rfl, eo, bnd_ok, w32_of (z := r) (by omega)]
  by_cases q2 : r = -1
  rotate_left
  · rw [if_neg q2] at nf m1
    exact Or.inl ⟨Dc, Dm, by rw [cl1 _ nl, bnd_ok, nf, bnd_er], m1, ⟨h.1, h.2.1, h.2.2.1⟩, Oc.rf _, Om.rf _⟩
  rw [if_pos q2] at nf m1
  have hnew : ∀ j, 0 ≤ j → j < sm (mc Dm k) (Rz 240 42 Dm k) → mn_ Dm k j ≠ x := by
    rcases hr with z | z
    · exact z.2
    · omega
  obtain ⟨L, l1, l2, l3⟩ := spot_L hk hW0 hx hnew
  rw [isFull_m hk hW0 rfl l1 l2, bnd_ok] at m1
  by_cases qK : K < 80
  rotate_left
  · refine Or.inl ⟨Dc, Dm, by rw [cl1 _ nl, bnd_ok, nf, bnd_ok, if_neg qK], ?_, ⟨h.1, h.2.1, h.2.2.1⟩, Oc.rf _, Om.rf _⟩
    rw [m1, hK, w32_of (z := K) (by omega), if_pos (show K = 80 by omega)]
    split <;> rfl
  -- what is wanted
  obtain ⟨gc0, gm0, wn0⟩ := wantNothing_both Dc Dm (fun _ => 6)
  obtain ⟨Dm1, k1, k2, k3, k4⟩ := want_both wn0 ⟨by omega, by omega⟩ (n := 6) (by omega)
  have h1 : St (pC_want 6 (pC_wantNothing Dc)) Dm1 m := h.gw (gc0.trans k2) (gm0.trans k3)
  have gm1 := gm0.trans k3
  have eq1 : ∀ b, 33 ≤ b → b ≤ 57 → Dm1 b = Dm b := fun b y1 y2 => gm1.1 b (by simp only [List.mem_cons, List.not_mem_nil, or_false]; omega)
  have hmc1 : mc Dm1 = mc Dm := by funext a b; exact R_cg (eq1 45 (by decide) (by decide)) _
  have hme1 : me Dm1 = me Dm := by funext a b; exact R_cg (eq1 46 (by decide) (by decide)) _
  have hmn1 : mn_ Dm1 = mn_ Dm := by funext a b; exact R_cg (eq1 47 (by decide) (by decide)) _
  have hmE1 : mE Dm1 = mE Dm := by funext a b; unfold mE; rw [hme1, hmn1]
  have e42 : Rz 240 42 Dm1 = Rz 240 42 Dm := Rz_fn (eq1 42 (by decide) (by decide))
  have e40 : Rz 240 40 Dm1 = Rz 240 40 Dm := Rz_fn (eq1 40 (by decide) (by decide))
  have l1' := leafFor_eqv (D' := Dm1) hk hW0 hx hnew (fun b hb => eq1 b (by simp only [List.mem_cons, List.not_mem_nil, or_false] at hb; omega) (by simp only [List.mem_cons, List.not_mem_nil, or_false] at hb; omega)) l1
  have tt1 : th Dm1 = th Dm := th_fn (eq1 36 (by decide) (by decide))
  have wf := wantFor_both (x := x) (y := K) (n := Rz 240 42 Dm k) h1.1.1 hk (by rw [tt1]; exact ht) hx (by omega) (by rw [e42]) l1' l2 (by rw [hmc1, hmE1]; exact l3 K (by omega) qK) k4 (by omega)
  rw [hmc1, e40] at wf
  rcases wf with ⟨f1, f2, Dc2, f3, f4⟩ | ⟨f1, Dc2, Dm2, f3, f4, f5, f6, f7⟩
  · refine Or.inl ⟨Dc2, Dm, ?_, ?_, ?_, (gc0.trans (k2.trans f4)).oc, Om.rf _⟩
    · rw [cl1 _ nl, bnd_ok, nf, bnd_ok, if_pos qK, f3, bnd_ok]
      unfold pH_requireListNotFull
      rw [w32_k0, if_pos rfl, bnd_er]
    · rw [m1, if_pos (show Rz 240 42 Dm k = 8 ∧ mc Dm k L = 4 from ⟨f1, f2⟩), w32_k1, if_neg (by decide)]
    · have := h.gw (gc0.trans (k2.trans f4)) (Gm.rf Dm)
      exact ⟨this.1, this.2.1, this.2.2.1⟩
  · rw [if_neg f1, w32_k0, if_pos rfl, hK, w32_of (z := K) (by omega), if_neg (show ¬ K = 80 by omega)] at m1
    simp only [gD] at m1
    rw [k1, bnd_ok, f4, bnd_ok] at m1
    have h2 : St Dc2 Dm2 m := h1.gw f5 f6
    obtain ⟨c, w, hwn, hc, hw0, hE⟩ : ∃ c w, Wn Dc2 Dm2 c w ∧ (1 ≤ c ∧ c ≤ 6) ∧ w 0 = 6 ∧ ((Rz 240 42 Dm k = 0 ∧ 1 < c ∧ w 1 = 5) ∨ (1 ≤ Rz 240 42 Dm k ∧ mc Dm k L < 4) ∨ (Rz 240 42 Dm k = 1 ∧ mc Dm k L = 4 ∧ 2 < c ∧ w 1 = 9 ∧ w 2 = 5) ∨ (2 ≤ Rz 240 42 Dm k ∧ Rz 240 42 Dm k < 8 ∧ mc Dm k L = 4 ∧ 1 < c ∧ w 1 = 5)) := by
      rcases f7 with ⟨z1, z2⟩ | ⟨z1, z2, z3⟩ | ⟨z1, z2, z3⟩ | ⟨z1, z2, z3, z4⟩
      · exact ⟨_, _, z2, by omega, by simp, Or.inl ⟨z1, by omega, by simp⟩⟩
      · exact ⟨_, _, z3, by omega, by simp, Or.inr (Or.inl ⟨z1, z2⟩)⟩
      · exact ⟨_, _, z3, by omega, by simp, Or.inr (Or.inr (Or.inl ⟨z1, z2, by omega, by simp, by simp⟩))⟩
      · exact ⟨_, _, z4, by omega, by simp, Or.inr (Or.inr (Or.inr ⟨z1, z2, z3, by omega, by simp⟩))⟩
    have gc2 := gc0.trans (k2.trans f5)
    have gm2 := gm1.trans f6
    have c1 := cl1 _ nl
    rw [bnd_ok, nf, bnd_ok, if_pos qK, f3, bnd_ok] at c1
    have lf : pH_requireListNotFull 1 Dc2 = okR 0 Dc2 := by
      unfold pH_requireListNotFull
      rw [w32_k1, if_neg (by decide)]
    rw [lf, bnd_ok] at c1
    obtain ⟨Dc3, Dm3, ⟨g1, g2, g3, g4⟩, g5, g6, g7, g8, g9⟩ := gets_ok h2 hwn ⟨by omega, hc.2⟩
    rcases g9 with ⟨y1, y2, g, y3, y4, y5⟩ | ⟨y1, y2, y3⟩
    · right
      have z57 : ∀ b, 35 ≤ b → b ≤ 57 → Dm3 b = Dm b := fun b x1 x2 => by
        rw [g7 b (by simp only [List.mem_cons, List.not_mem_nil, or_false]; omega), gm2.1 b (by simp only [List.mem_cons, List.not_mem_nil, or_false]; omega)]
      have z58 : ∀ b, 35 ≤ b → b ≤ 57 → up2 Dm3 32 42 0 b = Dm b := fun b x1 x2 => by rw [up2_ot (by omega), z57 b x1 x2]
      have hmc3 : mc (up2 Dm3 32 42 0) = mc Dm := by funext a b; exact R_cg (z58 45 (by decide) (by decide)) _
      have hmn3 : mn_ (up2 Dm3 32 42 0) = mn_ Dm := by funext a b; exact R_cg (z58 47 (by decide) (by decide)) _
      have e423 : Rz 240 42 (up2 Dm3 32 42 0) = Rz 240 42 Dm := Rz_fn (z58 42 (by decide) (by decide))
      have e403 : Rz 240 40 (up2 Dm3 32 42 0) = Rz 240 40 Dm := Rz_fn (z58 40 (by decide) (by decide))
      have tt3 : th (up2 Dm3 32 42 0) = th Dm := th_fn (z58 36 (by decide) (by decide))
      have l3' := leafFor_eqv (D' := up2 Dm3 32 42 0) hk hW0 hx hnew (fun b hb => z58 b (by simp only [List.mem_cons, List.not_mem_nil, or_false] at hb; omega) (by simp only [List.mem_cons, List.not_mem_nil, or_false] at hb; omega)) l1
      obtain ⟨Dc', Dm', v1, v2, v3, v4, v5, v6, v7, v8⟩ := makes_both (ta := ta) (K := K) (n := Rz 240 42 Dm k) (L := L) (c := c) (g := g) (w := w) (m := m) (Dc := Dc3) (Dm := up2 Dm3 32 42 0) (k := k) (x := x) g1.thr hk (by rw [tt3]; exact ht) hx hta (by rw [z58 35 (by decide) (by decide), hK]) qK (by rw [Rz_fn (z58 39 (by decide) (by decide))]; exact q1) (by rw [hmc3, hmn3, e423]; exact hnew) (by rw [e423]) l3' hc (by rw [up2_nk (by decide)]; exact g8) (fun i x1 x2 => by
          obtain ⟨a1, a2, a3, a4⟩ := y3 i x1 x2
          refine ⟨a1, by rw [R_up2_ot (by decide)]; exact a2, ?_, a4⟩
          rw [th_fn (up2_ot (by decide)), Rz_fn (up2_ot (show (56 : Nat) ≠ 32 by decide)), Rz_fn (up2_ot (show (57 : Nat) ≠ 32 by decide))]
          exact a3.eqv rfl (fun b _ _ => up2_ot (by omega))) y4 hw0 (by rw [hmc3]; exact hE) (fun t x1 x2 => by rw [R_up2_ot (by decide)]; exact y5 t x1 x2) g2.thr h.2.2.2
      refine ⟨Dc', Dm3, Dm', K, ?_, ?_, v2, v3, v4, v5, gc2.oc.trans (g3.trans v6), gm2.om.trans (g4.trans ((Om.thr _ _).trans v7)), by rw [v8, up2_eq]⟩
      · rw [c1, y1, bnd_ok]
        have : pH_requireRoom 1 Dc3 = okR 0 Dc3 := by
          unfold pH_requireRoom
          rw [w32_k1, if_neg (by decide)]
        rw [this, bnd_ok]
        rw [e403] at v1
        exact v1
      · rw [m1, y2, bnd_ok, w32_k1, if_neg (by decide)]
    · refine Or.inl ⟨Dc3, Dm3, ?_, ?_, ⟨g1, y3, g2⟩, gc2.oc.trans g3, gm2.om.trans g4⟩
      · rw [c1, y1, bnd_ok]
        unfold pH_requireRoom
        rw [w32_k0, if_pos rfl, bnd_er]
      · rw [m1, y2, bnd_ok, w32_k0, if_pos rfl]
theorem make_ok {k x : Int} (h : St Dc Dm m) (hk : -2147483648 ≤ k ∧ k ≤ 2147483647) (hx : -2147483648 ≤ x ∧ x ≤ 2147483647) : Ok [(0, 1), (1, 2), (2, 3)] Dc Dm m (pH_make k x Dc) (pM_make k x Dm) := by
  rcases key_both h.1 hk with ⟨g, t, c0, c, d⟩ | ⟨g, c0, c, d⟩
  · by_cases q : 0 ≤ x ∧ x ≤ 9999
    · have cl : pH_make k x Dc = bnd (pH_makeSubkey k x (-1) Dc) fun v1 D3 => okR v1 D3 := by
        unfold pH_make
        rw [c, bnd_ok, requireName_c hx, if_pos q, bnd_ok]
      rcases mk_core (ta := -1) h g t q (Or.inl rfl) with ⟨Dc', Dm', k1, k2, k3, k4, k5⟩ | ⟨Dc', Dm1, Dm', v, k1, k2, k3, k4, k5, k6, k7, k8, k9⟩
      · refine Ok.cannot (v := 0) (e := 2) (x := 3) k3 k4 k5 (by decide) ?_ (by rw [cl, k1, bnd_er])
        unfold pM_make
        rw [d, bnd_ok]
        simp only [jnR]
        rw [w32_k1, if_neg (by decide), isName_m hx, if_pos q, if_neg (by decide), k2, bnd_ok, w32_k1, if_neg (by decide), failsP (by omega), bnd_ok, w32_k1, if_neg (by decide)]
      · refine ⟨Dc', Dm', v, ?_, ⟨k4, k5, k6⟩, k7, k8, Or.inl ⟨by rw [cl, k1, bnd_ok], k9⟩⟩
        unfold pM_make
        rw [d, bnd_ok]
        simp only [jnR]
        rw [w32_k1, if_neg (by decide), isName_m hx, if_pos q, if_neg (by decide), k2, bnd_ok, w32_k0, if_pos rfl, fails0, bnd_ok, w32_k0, if_pos rfl, k3, bnd_ok]
    · refine Ok.err (v := 0) (e := 1) (x := 2) h (by decide) ?_ ?_
      · unfold pM_make
        rw [d, bnd_ok]
        simp only [jnR]
        rw [w32_k1, if_neg (by decide), isName_m hx, if_neg q, if_pos rfl, failsP (by omega), bnd_ok, w32_k1, if_neg (by decide)]
      · unfold pH_make
        rw [c, bnd_ok, requireName_c hx, if_neg q, bnd_er]
  · refine Ok.err (v := 0) (e := 0) (x := 1) h (by decide) ?_ ?_
    · unfold pM_make
      rw [d, bnd_ok]
      simp only [jnR]
      rw [w32_k0, if_pos rfl, failsP (by omega), bnd_ok, w32_k1, if_neg (by decide)]
    · unfold pH_make
      rw [c, bnd_er]
theorem makeLink_ok {k x ta : Int} (h : St Dc Dm m) (hk : -2147483648 ≤ k ∧ k ≤ 2147483647) (hx : -2147483648 ≤ x ∧ x ≤ 2147483647) (hta : -2147483648 ≤ ta ∧ ta ≤ 2147483647) : Ok [(0, 1), (1, 2), (2, 3)] Dc Dm m (pH_makeLink k x ta Dc) (pM_makeLink k x ta Dm) := by
  rcases key_both h.1 hk with ⟨g, t, c0, c, d⟩ | ⟨g, c0, c, d⟩
  · rcases key_both h.1 hta with ⟨g', t', c0', c', d'⟩ | ⟨g', c0', c', d'⟩
    · by_cases q : 0 ≤ x ∧ x ≤ 9999
      · have cl : pH_makeLink k x ta Dc = bnd (pH_makeSubkey k x ta Dc) fun v1 D3 => okR v1 D3 := by
          unfold pH_makeLink
          rw [c, bnd_ok, c', bnd_ok, requireName_c hx, if_pos q, bnd_ok]
        rcases mk_core (ta := ta) h g t q (Or.inr g') with ⟨Dc', Dm', k1, k2, k3, k4, k5⟩ | ⟨Dc', Dm1, Dm', v, k1, k2, k3, k4, k5, k6, k7, k8, k9⟩
        · refine Ok.cannot (v := 0) (e := 2) (x := 3) k3 k4 k5 (by decide) ?_ (by rw [cl, k1, bnd_er])
          unfold pM_makeLink
          rw [d, bnd_ok]
          simp only [jnR]
          rw [w32_k1, if_neg (by decide), d', bnd_ok, w32_k1, if_neg (by decide), if_neg (by decide), isName_m hx, if_pos q, if_neg (by decide), k2, bnd_ok, w32_k1, if_neg (by decide), failsP (by omega), bnd_ok, w32_k1, if_neg (by decide)]
        · refine ⟨Dc', Dm', v, ?_, ⟨k4, k5, k6⟩, k7, k8, Or.inl ⟨by rw [cl, k1, bnd_ok], k9⟩⟩
          unfold pM_makeLink
          rw [d, bnd_ok]
          simp only [jnR]
          rw [w32_k1, if_neg (by decide), d', bnd_ok, w32_k1, if_neg (by decide), if_neg (by decide), isName_m hx, if_pos q, if_neg (by decide), k2, bnd_ok, w32_k0, if_pos rfl, fails0, bnd_ok, w32_k0, if_pos rfl, k3, bnd_ok]
      · refine Ok.err (v := 0) (e := 1) (x := 2) h (by decide) ?_ ?_
        · unfold pM_makeLink
          rw [d, bnd_ok]
          simp only [jnR]
          rw [w32_k1, if_neg (by decide), d', bnd_ok, w32_k1, if_neg (by decide), if_neg (by decide), isName_m hx, if_neg q, if_pos rfl, failsP (by omega), bnd_ok, w32_k1, if_neg (by decide)]
        · unfold pH_makeLink
          rw [c, bnd_ok, c', bnd_ok, requireName_c hx, if_neg q, bnd_er]
    · refine Ok.err (v := 0) (e := 0) (x := 1) h (by decide) ?_ ?_
      · unfold pM_makeLink
        rw [d, bnd_ok]
        simp only [jnR]
        rw [w32_k1, if_neg (by decide), d', bnd_ok, w32_k0, if_pos rfl, if_pos rfl, failsP (by omega), bnd_ok, w32_k1, if_neg (by decide)]
      · unfold pH_makeLink
        rw [c, bnd_ok, c', bnd_er]
  · refine Ok.err (v := 0) (e := 0) (x := 1) h (by decide) ?_ ?_
    · unfold pM_makeLink
      rw [d, bnd_ok]
      simp only [jnR]
      rw [w32_k0, if_pos rfl, if_pos rfl, failsP (by omega), bnd_ok, w32_k1, if_neg (by decide)]
    · unfold pH_makeLink
      rw [c, bnd_er]
end MAKE
