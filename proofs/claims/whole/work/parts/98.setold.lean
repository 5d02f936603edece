/-! setValue of a name that has a value -/
section SETOLD
variable {Dc Dm : DD} {m : Int}
theorem st_loop {X L : Int} (hX : 0 ≤ X ∧ X < 640) (hL : 0 ≤ L ∧ L ≤ 30) : ∀ (f : Nat) (a : Int) (D : DD), 0 ≤ a → a ≤ pcs L → (pcs L - a).toNat < f → ∃ D', (∀ K, pM_setValue_231 X (pcs L) f a D K = K D') ∧ (∀ b, b ≠ 55 → D' b = D b) ∧ HiEq D D' ∧ ∀ u, Rz 7680 55 D' u = if 4 * X + a ≤ u ∧ u < 4 * X + pcs L then Rz 8 66 D (u - 4 * X) else Rz 7680 55 D u := by
  have hp := pcs_bd hL
  intro f
  induction f with
  | zero => intro a D h1 h2 h3; omega
  | succ f ih =>
    intro a D h1 h2 h3
    by_cases q : a < pcs L
    · obtain ⟨D', k1, k2, k3, k4⟩ := ih (a + 1) (Tz 7680 55 D (4 * X + a) (Rz 8 66 D a)) (by omega) (by omega) (by omega)
      refine ⟨D', fun K => ?_, fun b hb => (k2 b hb).trans (T_ot hb), (HiEq.T (n := 7680) (a := 55) (m := 2560) (by decide) (by omega)).trans k3, fun u => ?_⟩
      · rw [pM_setValue_231, w32_of (z := a) (by omega), w32_of (z := pcs L) (by omega), if_pos q, rdA_R (by omega), wrA_T (by omega)]
        exact k1 K
      · rw [k4, R_T_ot (by decide), R_T]
        by_cases z : u = 4 * X + a
        · rw [if_neg (by omega), if_pos ⟨by omega, z⟩, if_pos (by omega), show u - 4 * X = a by omega]
        · by_cases z2 : 4 * X + (a + 1) ≤ u ∧ u < 4 * X + pcs L
          · rw [if_pos z2, if_pos (by omega)]
          · rw [if_neg z2, if_neg (fun y => z y.2), if_neg (by omega)]
    · refine ⟨D, fun K => ?_, fun _ _ => rfl, HiEq.rf _, fun u => by rw [if_neg (by omega)]⟩
      rw [pM_setValue_231, w32_of (z := a) (by omega), w32_of (z := pcs L) (by omega), if_neg q]
theorem sets_old {k j L0 L' v p c sd' x5 : Int} {g : Int → Int} (h : Tr Dc Dm) (hk : 0 ≤ k ∧ k < 80) (ht : th Dm k) (hj : 0 ≤ j ∧ j < Rz 240 48 Dm k) (hv : vP Dm k j = v) (hL0 : vL Dm k j = L0) (hp : Rz 240 40 Dm k = p) (hL' : 0 ≤ L' ∧ L' ≤ 30) (hx5 : Rz 1024 4 Dc (v + 2) = x5)
    (hc : c = pcs L') (h37 : Dm 32 37 = c) (hg : ∀ i, 0 ≤ i → i < c → Rz 6 9 Dc i = g i ∧ Rz 8 66 Dm i = g i ∧ Fs (th Dm) (Rz 768 56 Dm) (Rz 768 57 Dm) Dc Dm (g i) (2 + upc L' i) ∧ (4 ≤ g i ∧ g i + (2 + upc L' i) ≤ 1024)) (hgn : ∀ i i', 0 ≤ i → i < i' → i' < c → g i ≠ g i')
    (hDy : ∀ t, 0 ≤ t → t < 64 → (bit (Dc 7 5) t = true ↔ w32 (Rz 64 58 Dm t) ≠ 0 ∨ ∃ i, 0 ≤ i ∧ i < c ∧ sec (g i) (2 + upc L' i) t)) (hW : Wt Dc Dm m) (hm : m ≤ 700000) :
    ∃ Dc1 Dc' E1 Dm', (gD (pV_putHead v (vN Dm k j) L' Dc) fun D8 => gD (pI_putUnit (v + 1) sd' D8) fun D9 => bnd (pV_chainPieces (v + 2) (pcs L') D9) fun _ D10 => bnd (pV_giveBackPieces x5 D10) fun v3 D11 => bnd (pC_markWritten v D11) fun _ D12 => bnd (pC_markWritten p D12) fun _ D13 => okR 1 D13) = okR 1 Dc1 ∧ pH_tellUpwards k 2 Dc1 = okR 0 Dc' ∧
      pM_writesGot Dm = okR 0 E1 ∧ (∀ b, b ≠ 58 → E1 b = Dm b) ∧
      (bnd (pM_givesPieces (8 * k + j) 0 E1) fun _ D8 => pM_setValue_231 (8 * k + j) (pcs L') fu 0 D8 fun D10 => wrA 1920 53 (8 * k + j) L' D10 fun D11 => wrA 1920 52 (8 * k + j) sd' D11 fun D12 => rdA 1920 54 (8 * k + j) D12 fun v4 => bnd (pM_writes v4 D12) fun _ D13 => rdA 240 40 k D13 fun v5 => bnd (pM_writes v5 D13) fun _ D14 => bnd (pM_changes k 2 D14) fun _ D15 => rdA 240 48 k D15 fun v6 => okR v6 D15) = okR (Rz 240 48 Dm k) Dm' ∧
      Tr Dc' Dm' ∧ Dy Dc' Dm' ∧ Wt Dc' Dm' (m + 80) ∧ Oc Dc Dc' ∧ Om Dm Dm' ∧ Dm' 32 42 = Dm 32 42 ∧ Rz 240 48 Dm' k = Rz 240 48 Dm k ∧ Rz 240 40 Dm' k = p ∧ th Dm' k := by
  have hkr := St.kr h hk ht
  have inK : ∀ {a i p s}, LbK Dm k a i p s → Lb (th Dm) (Rz 768 56 Dm) (Rz 768 57 Dm) Dm a i p s := fun z => Or.inl ⟨k, hk.1, hk.2, ht, z⟩
  obtain ⟨pk1, pk2, pk3⟩ := h.place hk ht
  rw [hp] at pk1 pk2 pk3
  have hV := hkr.2.2.2.2.2.2
  have v8 := hV.1
  obtain ⟨c1, c2, c3, c4, c5, c6, c7⟩ := hV.2.2.2.1 j hj.1 hj.2
  rw [hL0] at c2 c4 c6 c7
  rw [hv] at c3 c4 c5 c6
  have hT := h.1.1.1
  have hsc := h.1.1.2.1
  have vt := hT.1 v (by omega)
  have hp0 := pcs_bd c2
  have hp1 := pcs_bd hL'
  have lv : LbK Dm k 54 (8 * k + j) v 3 := by
    have := LbK.val (D := Dm) (k := k) hj.1 hj.2
    rw [hv] at this
    exact this
  have lq : ∀ i, 0 ≤ i → i < pcs L0 → LbK Dm k 55 (4 * (8 * k + j) + i) (vQ Dm k j i) (2 + upc L0 i) := fun i a b => by
    have := LbK.pie (D := Dm) (k := k) (j := j) (m := i) hj.1 hj.2 a (by rw [hL0]; exact b)
    rw [hL0] at this
    exact this
  have ub : ∀ i, 0 ≤ i → i < pcs L0 → 1 ≤ upc L0 i ∧ upc L0 i ≤ 8 := fun i a b => upc_bd c2 ⟨a, b⟩
  have ub' : ∀ i, 0 ≤ i → i < pcs L' → 1 ≤ upc L' i ∧ upc L' i ≤ 8 := fun i a b => upc_bd hL' ⟨a, b⟩
  have gl : ∀ a i p t, Lb (th Dm) (Rz 768 56 Dm) (Rz 768 57 Dm) Dm a i p t → ∀ i', 0 ≤ i' → i' < c → g i' + (2 + upc L' i') ≤ p ∨ p + t ≤ g i' := fun a i p t l i' x1 x2 => (hg i' x1 x2).2.2.1.dis h.1 l
  have vg : ∀ i, 0 ≤ i → i < c → v ≠ g i ∧ v + 1 ≠ g i ∧ v + 2 ≠ g i := fun i a b => by
    have := gl _ _ _ _ (inK lv) i a b
    have := ub' i (by omega) (by omega)
    omega
  obtain ⟨D0, hD0⟩ : ∃ D0, D0 = Tz 1024 4 (Tz 1024 4 Dc v (vN Dm k j * 31 + L')) (v + 1) sd' := ⟨_, rfl⟩
  have o0 : ∀ b, b ≠ 4 → D0 b = Dc b := fun b hb => by rw [hD0, T_ot hb, T_ot hb]
  have n0 : ∀ u, Rz 1024 4 D0 u = if u = v then vN Dm k j * 31 + L' else if u = v + 1 then sd' else Rz 1024 4 Dc u := fun u => by
    rw [hD0, R_T, R_T]
    by_cases e : u = v
    · rw [if_neg (by omega), if_pos ⟨by omega, e⟩, if_pos e]
    · rw [if_neg e]
      by_cases e2 : u = v + 1
      · rw [if_pos ⟨by omega, e2⟩, if_pos e2]
      · rw [if_neg (fun z => e2 z.2), if_neg (fun z => e z.2), if_neg e2]
  -- the class: chain
  obtain ⟨D1, a1, a2, a3, a4, a5⟩ := chain_c (q := g) (m := c) (l := v + 2) (D := D0) (by omega) (fun i a b => by
    obtain ⟨e1, -, -, e2⟩ := hg i a b
    have := ub' i (by omega) (by omega)
    exact ⟨by rw [R_cg (o0 9 (by decide))]; exact e1, by omega, by omega⟩) hgn (by omega) (fun i a b => (vg i a b).2.2)
  -- the reference: marks
  obtain ⟨E1, r1, r2⟩ := writesGot_m (g := g) (w := fun i => 2 + upc L' i) (D := Dm) (by omega) h37 (fun i x1 x2 => by
    obtain ⟨y1, y2, y3, y4⟩ := hg i x1 x2
    exact ⟨y2, by rw [h.1.1.2.2.2 _ (by omega) (by have := y3.2.1; omega)]; exact y3.1, y3.2.1, by omega, y4.2⟩)
  have f1 : ∀ b, b ≠ 58 → E1 b = Dm b := r2.1
  -- the old pieces are given back
  have o1 : ∀ b, b ≠ 4 → D1 b = Dc b := fun b hb => (a2 b hb).trans (o0 b hb)
  have hC1 : CR D1 E1 := h.1.1.cong (fun u => R_cg (o1 3 (by decide)) u) (by rw [o1 2 (by decide)]) (fun u _ _ => R_cg (f1 33 (by decide)) u) (by rw [f1 34 (by decide)])
  have e53 : Rz 1920 53 E1 (8 * k + j) = L0 := by rw [R_cg (f1 53 (by decide))]; exact hL0
  obtain ⟨D2, E2, V, g1, g2, g3, g4, g5, g6, g7, g8, g9, g10, g11, g12⟩ := pieces_loop (q := fun i => vQ Dm k j i) (w := fun i => 2 + upc L0 i) (x := 8 * k + j) (fr := 0) (m := pcs L0) (by omega) (Int.le_refl _) (by omega) (by omega) (pcs L0).toNat fu fu 0 0 D1 E1 (fu_gt (by omega)) (fu_gt (by omega)) (by omega) (by omega) hC1
    (fun i x y => by
      have := ub i x y
      exact ⟨by rw [R_cg (o1 3 (by decide))]; exact (c7 i x y).1, by omega, by omega⟩) (fun i x1 x2 => by
      have d1 := h.1.dis (inK (lq i x1 x2)) (inK lv) (Or.inl (by decide))
      have d2 := ub i x1 x2
      rw [a5 _ (by omega) (fun i' y1 y2 => by
        have := gl _ _ _ _ (inK (lq i x1 x2)) i' y1 y2
        have := ub' i' (by omega) (by omega)
        omega), n0, if_neg (by omega), if_neg (by omega), (c7 i x1 x2).2]) (fun i i' x1 x2 x3 => h.1.ne (inK (lq i x1 (by omega))) (inK (lq i' (by omega) x3)) (Or.inr (by omega))) (by rw [e53]; exact c2) (by rw [e53]; omega) (fun i x1 x2 => by rw [R_cg (f1 55 (by decide)), Int.zero_add]; rfl)
  have e4 : ∀ u, Rz 1024 4 D2 u = Rz 1024 4 D1 u := fun u => R_cg (g4 4 (by decide)) u
  have szo : ∀ u, (∀ i, 0 ≤ i → i < pcs L0 → u ≠ vQ Dm k j i) → 0 < Rz 1024 3 Dc u → Rz 1024 3 D2 u = Rz 1024 3 Dc u := fun u e1 e2 => by
    rw [g10 u (fun i x1 x2 => e1 _ x1 x2) (by rw [R_cg (o1 3 (by decide))]; exact e2), R_cg (o1 3 (by decide))]
  have s3 : Rz 1024 3 D2 v = 3 := by rw [szo v (fun i x1 x2 => h.1.ne (inK lv) (inK (lq i x1 x2)) (Or.inl (by decide))) (by omega), c3]
  have lk := LbK.key (D := Dm) (k := k)
  rw [hp] at lk
  have s6 : Rz 1024 3 D2 p = 6 := by
    have := hkr.lb lk
    rw [szo p (fun i x1 x2 => h.1.ne (inK lk) (inK (lq i x1 x2)) (Or.inl (by decide))) (by omega), this.1]
  -- the class: marks
  obtain ⟨D3, y1, y2⟩ := mark_class (D := D2) (p := v) (n := 3) s3 (by decide) (by omega) (by omega)
  obtain ⟨D4, y3, y4⟩ := mark_class (D := D3) (p := p) (n := 6) (by rw [R_cg (y2.1 3 (by decide))]; exact s6) (by decide) (by omega) (by omega)
  -- the reference: pieces, length, seed, marks
  obtain ⟨E3, z1, z2, z3, z4⟩ := st_loop (X := 8 * k + j) (L := L') (by omega) hL' fu 0 E2 (Int.le_refl _) hp1.1 (fu_gt (by omega))
  obtain ⟨E4, z5, z6⟩ := mark_model (D := Tz 1920 52 (Tz 1920 53 E3 (8 * k + j) L') (8 * k + j) sd') (p := v) (n := 3) (by rw [R_T_ot (by decide), R_T_ot (by decide), R_cg (z2 33 (by decide)), g3.2.2.2 _ (by omega) (by omega)]; exact s3) (by decide) (by omega) (by omega)
  obtain ⟨E5, z7, z8⟩ := mark_model (D := E4) (p := p) (n := 6) (by rw [R_cg (z6.1 33 (by decide)), R_T_ot (by decide), R_T_ot (by decide), R_cg (z2 33 (by decide)), g3.2.2.2 _ (by omega) (by omega)]; exact s6) (by decide) (by omega) (by omega)
  have om : ∀ b, b ∉ [32, 33, 52, 53, 55, 58] → E5 b = Dm b := fun b hb => by
    rw [z8.1 b (nin hb (by decide)), z6.1 b (nin hb (by decide)), T_ot (nin hb (by decide)), T_ot (nin hb (by decide)), z2 b (nin hb (by decide)), g6 b (nsub hb (by decide)), f1 b (nin hb (by decide))]
  have oc : ∀ b, b ∉ [3, 4, 7] → D4 b = Dc b := fun b hb => by
    rw [y4.1 b (nin hb (by decide)), y2.1 b (nin hb (by decide)), g4 b (nsub hb (by decide)), o1 b (nin hb (by decide))]
  have o32 : ∀ j, j ≠ 41 → E5 32 j = Dm 32 j := fun j hj => by
    rw [z8.1 32 (by decide), z6.1 32 (by decide), T_ot (by decide), T_ot (by decide), z2 32 (by decide), g7 j hj, f1 32 (by decide)]
  have n53 : ∀ i, Rz 1920 53 E5 i = if i = 8 * k + j then L' else Rz 1920 53 Dm i := fun i => by
    rw [R_cg (z8.1 53 (by decide)), R_cg (z6.1 53 (by decide)), R_T_ot (by decide), R_T, R_cg (z2 53 (by decide)), R_cg (g6 53 (by decide)), R_cg (f1 53 (by decide))]
    by_cases e : i = 8 * k + j
    · rw [if_pos ⟨by omega, e⟩, if_pos e]
    · rw [if_neg (fun u => e u.2), if_neg e]
  have n52 : ∀ i, Rz 1920 52 E5 i = if i = 8 * k + j then sd' else Rz 1920 52 Dm i := fun i => by
    rw [R_cg (z8.1 52 (by decide)), R_cg (z6.1 52 (by decide)), R_T, R_T_ot (by decide), R_cg (z2 52 (by decide)), R_cg (g6 52 (by decide)), R_cg (f1 52 (by decide))]
    by_cases e : i = 8 * k + j
    · rw [if_pos ⟨by omega, e⟩, if_pos e]
    · rw [if_neg (fun u => e u.2), if_neg e]
  have n55 : ∀ u, Rz 7680 55 E5 u = if 4 * (8 * k + j) ≤ u ∧ u < 4 * (8 * k + j) + pcs L' then Rz 8 66 Dm (u - 4 * (8 * k + j)) else Rz 7680 55 Dm u := fun u => by
    rw [R_cg (z8.1 55 (by decide)), R_cg (z6.1 55 (by decide)), R_T_ot (by decide), R_T_ot (by decide), z4 u, R_cg (g6 66 (by decide)), R_cg (g6 55 (by decide)), R_cg (f1 66 (by decide)), R_cg (f1 55 (by decide)), Int.add_zero]
  have un4 : ∀ u, Rz 1024 4 D4 u = Rz 1024 4 D1 u := fun u => by rw [R_cg (y4.1 4 (by decide)), R_cg (y2.1 4 (by decide)), e4]
  have sz4 : ∀ u, Rz 1024 3 D4 u = Rz 1024 3 D2 u := fun u => by rw [R_cg (y4.1 3 (by decide)), R_cg (y2.1 3 (by decide))]
  have hC4 : CR D4 E5 := g3.cong sz4 (by rw [oc 2 (by decide), g4 2 (by decide), o1 2 (by decide)]) (fun u _ _ => by rw [R_cg (z8.1 33 (by decide)), R_cg (z6.1 33 (by decide)), R_T_ot (by decide), R_T_ot (by decide), R_cg (z2 33 (by decide))]) (by rw [z8.1 34 (by decide), z6.1 34 (by decide), T_ot (by decide), T_ot (by decide), z2 34 (by decide)])
  have hT4 : T0 (th Dm) (Rz 768 56 Dm) (Rz 768 57 Dm) D4 E5 := by
    refine h.1.value (k := k) (j := j) (s := 0) (L0 := L0) (L' := L') (sd' := sd') (v := v) (x := v + 2) (g := g) hk ht hj hv hL0 hL' ⟨Int.le_refl _, hp0.1, hp1.1⟩ (fun i i1 i2 => by omega) (if_pos rfl).symm (fun i a b => by rw [Int.zero_add]; exact (hg i a (by omega)).2.2.1) (fun i i' a b d => hgn i i' a b (by omega)) hC4 (by rw [oc 2 (by decide), om 35 (by decide)]; exact h.1.2.1) (oc 5 (by decide)) (oc 6 (by decide)) (fun b u1 u2 u3 u4 => om b (by simp only [List.mem_cons, List.not_mem_nil, or_false]; omega)) (fun i i1 i2 i3 => ⟨fun a z => R_cg (om a (by simp only [List.mem_cons, List.not_mem_nil, or_false] at z ⊢; omega)) i, fun a z t t1 t2 => ?_, fun a z t t1 t2 => ?_⟩)
      (fun i i1 i2 => ?_) (fun i i1 i2 => ?_) (fun i t i1 i2 t1 t2 e => ?_) (fun t t1 t2 => ?_) (fun u e1 e2 => by rw [sz4]; exact szo u e1 e2) ?_ ?_ ?_ (fun i i1 i2 => ?_) (fun u e1 e2 e3 e4 => ?_)
    · by_cases e : a = 53
      · subst e
        rw [n53, if_neg (by omega)]
      · by_cases e : a = 52
        · subst e
          rw [n52, if_neg (by omega)]
        · exact R_cg (om a (by simp only [List.mem_cons, List.not_mem_nil, or_false] at z ⊢; omega)) _
    · by_cases e : a = 55
      · subst e
        rw [n55, if_neg (by omega)]
      · exact R_cg (om a (by simp only [List.mem_cons, List.not_mem_nil, or_false] at z ⊢; omega)) _
    · show Rz 1920 53 E5 (8 * k + i) = _
      rw [n53]
      by_cases e : i = j
      · rw [if_pos (by omega), if_pos e]
      · rw [if_neg (by omega), if_neg e]; rfl
    · show Rz 1920 52 E5 (8 * k + i) = _
      rw [n52]
      by_cases e : i = j
      · rw [if_pos (by omega), if_pos e]
      · rw [if_neg (by omega), if_neg e]; rfl
    · show Rz 7680 55 E5 (4 * (8 * k + i) + t) = _
      rw [n55, if_neg (by omega)]; rfl
    · show Rz 7680 55 E5 (4 * (8 * k + j) + t) = _
      rw [n55, if_pos (by omega), show 4 * (8 * k + j) + t - 4 * (8 * k + j) = t by omega, Int.sub_zero]
      exact (hg t (by omega) (by omega)).2.1
    · rw [un4, a5 v (by omega) (fun i a b => (vg i a b).1), n0, if_pos rfl]
    · rw [un4, a5 _ (by omega) (fun i a b => (vg i a b).2.1), n0, if_neg (by omega), if_pos rfl]
    · rw [un4, a3, hc]
    · rw [un4, a4 i i1 (by omega), hc, Int.sub_zero]
    · rw [un4, a5 u e3 (fun i i1 i2 => e4 i i1 (by omega)), n0, if_neg e1, if_neg e2]
  have eth : th E5 = th Dm := th_fn (om 36 (by decide))
  have hTr : Tr D4 E5 := ⟨by rw [eth, Rz_fn (om 56 (by decide)), Rz_fn (om 57 (by decide))]; exact hT4, h.2.of (fun b hb => om b (by simp only [List.mem_cons, List.not_mem_nil, or_false] at hb ⊢; omega))⟩
  have hDy4 : Dy D4 E5 := fun t t1 t2 => by
    have d2 : bit (D1 7 5) t = bit (Dc 7 5) t := by rw [o1 7 (by decide)]
    have d3 : Rz 64 58 (Tz 1920 52 (Tz 1920 53 E3 (8 * k + j) L') (8 * k + j) sd') t = Rz 64 58 E2 t := by rw [R_T_ot (by decide), R_T_ot (by decide), R_cg (z2 58 (by decide))]
    rw [y4.2.2 t t1 t2, y2.2.2 t t1 t2, g11 t t1 t2, d2, hDy t t1 t2, z8.2 t t1 t2, z6.2 t t1 t2, d3, g12 t t1 t2, r2.2 t t1 t2]
  have hhi : HiEq Dm E5 := (((HiEq.ot (fun b u1 u2 => f1 b (by omega))).trans (g9.trans z3)).trans (((HiEq.T (n := 1920) (a := 53) (m := 640) (by decide) (by omega)).trans (HiEq.T (n := 1920) (a := 52) (m := 640) (by decide) (by omega))).trans (HiEq.ot (fun b u1 u2 => z6.1 b (by omega))))).trans (HiEq.ot (fun b u1 u2 => z8.1 b (by omega)))
  have hW4 : Wt D4 E5 m := hW.cong (oc 16 (by decide)) (oc 17 (by decide)) (oc 18 (by decide)) (oc 19 (by decide)) (by rw [oc 15 (by decide)]) (om 59 (by decide)) (om 60 (by decide)) (om 61 (by decide)) (om 62 (by decide)) (om 63 (by decide)) (o32 29 (by decide))
  obtain ⟨D6, E6, v1, v2, v3, v4, v5, v6, v7, v8', -, v9, -⟩ := told_both hTr hDy4 hW4 (by omega) hk (by rw [eth]; exact ht) (x := 2) (by omega)
  refine ⟨D4, D6, E1, E6, ?_, v1, r1, f1, ?_, v3, v4, v5, fun b hb => (v6 b hb).trans (oc b (by simp only [List.mem_cons, List.not_mem_nil, or_false]; omega)), (show Om Dm E5 from ⟨fun b hb => om b (by simp only [List.mem_cons, List.not_mem_nil, or_false]; omega), fun j _ _ => o32 j (by omega), hhi⟩).trans v7, by rw [v8', o32 42 (by decide)], by rw [R_cg (v9 48 (by decide)), R_cg (om 48 (by decide))], by rw [R_cg (v9 40 (by decide)), R_cg (om 40 (by decide)), hp], by unfold th; rw [R_cg (v9 36 (by decide)), R_cg (om 36 (by decide))]; exact ht⟩
  · have e0 : x5 = if 0 < pcs L0 then vQ Dm k j 0 else 0 := by
      rw [← hx5, c6]
      by_cases z : pcs L0 = 0
      · rw [if_pos z, if_neg (by omega)]
      · rw [if_neg z, if_pos (by omega)]
    unfold pV_giveBackPieces pV_putHead pI_putUnit
    simp only [gD]
    rw [sto_T (i := v + 0) (by omega), Int.add_zero, sto_T (by omega), ← hD0, ← hc, a1, bnd_ok, e0, g1, bnd_ok, y1, bnd_ok, y3, bnd_ok]
  · unfold pM_givesPieces
    rw [show (0 : Int) + 0 = 0 by decide] at g2
    rw [g2, bnd_ok, z1, wrA_T (by omega), wrA_T (by omega), rdA_R (by omega), R_T_ot (by decide), R_T_ot (by decide), R_cg (z2 54 (by decide)), R_cg (g6 54 (by decide)), R_cg (f1 54 (by decide)), show Rz 1920 54 Dm (8 * k + j) = v from hv, z5, bnd_ok, rdA_R (by omega), R_cg (z6.1 40 (by decide)), R_T_ot (by decide), R_T_ot (by decide), R_cg (z2 40 (by decide)), R_cg (g6 40 (by decide)), R_cg (f1 40 (by decide)), hp, z7, bnd_ok, v2, bnd_ok, rdA_R (by omega), R_cg (v9 48 (by decide)), R_cg (om 48 (by decide))]
end SETOLD
