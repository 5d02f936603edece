/-! resize -/
section RESIZE
variable {Dc Dm : DD} {m : Int}
theorem MT.of {D D' : DD} (h : MT D) (hm : ∀ b, b ∈ [35, 36, 37, 38, 39, 41, 42, 45, 46, 47, 57] → D' b = D b) : MT D' := by
  unfold MT mc me mn_ Rz at h ⊢
  rw [hm 35 (by decide), hm 36 (by decide), hm 37 (by decide), hm 38 (by decide), hm 39 (by decide), hm 41 (by decide), hm 42 (by decide), hm 45 (by decide), hm 46 (by decide), hm 47 (by decide), hm 57 (by decide)]
  exact h
theorem rs_loop {X s L c : Int} (hX : 0 ≤ X ∧ X < 640) (hs : 0 ≤ s) (hL : 0 ≤ L ∧ L ≤ 30) : ∀ (f : Nat) (a : Int) (D : DD), s ≤ a → a ≤ pcs L → (pcs L - a).toNat < f → ∃ D', (∀ K, pM_resize_122 L X s f a D K = K D') ∧ (∀ b, b ≠ 55 → D' b = D b) ∧ HiEq D D' ∧ ∀ u, Rz 7680 55 D' u = if 4 * X + a ≤ u ∧ u < 4 * X + pcs L then Rz 8 66 D (u - 4 * X - s) else Rz 7680 55 D u := by
  have hp := pcs_bd hL
  intro f
  induction f with
  | zero => intro a D h1 h2 h3; omega
  | succ f ih =>
    intro a D h1 h2 h3
    by_cases q : a < pcs L
    · obtain ⟨D', k1, k2, k3, k4⟩ := ih (a + 1) (Tz 7680 55 D (4 * X + a) (Rz 8 66 D (a - s))) (by omega) (by omega) (by omega)
      refine ⟨D', fun K => ?_, fun b hb => (k2 b hb).trans (T_ot hb), (HiEq.T (n := 7680) (a := 55) (m := 2560) (by decide) (by omega)).trans k3, fun u => ?_⟩
      · rw [pM_resize_122, piecesFor_m hL, w32_of (z := a) (by omega), w32_of (z := pcs L) (by omega), if_pos q, rdA_R (by omega), wrA_T (by omega)]
        exact k1 K
      · rw [k4, R_T_ot (by decide), R_T]
        by_cases z : u = 4 * X + a
        · rw [if_neg (by omega), if_pos ⟨by omega, z⟩, if_pos (by omega), show u - 4 * X - s = a - s by omega]
        · by_cases z2 : 4 * X + (a + 1) ≤ u ∧ u < 4 * X + pcs L
          · rw [if_pos z2, if_pos (by omega)]
          · rw [if_neg z2, if_neg (fun y => z y.2), if_neg (by omega)]
    · refine ⟨D, fun K => ?_, fun _ _ => rfl, HiEq.rf _, fun u => by rw [if_neg (by omega)]⟩
      rw [pM_resize_122, piecesFor_m hL, w32_of (z := a) (by omega), w32_of (z := pcs L) (by omega), if_neg q]
theorem walk_loop {s v L0 : Int} {q : Int → Int} {D : DD} (hs : 0 ≤ s ∧ s ≤ pcs L0 ∧ pcs L0 ≤ 4) (hv : 4 ≤ v ∧ v + 3 ≤ 1024) (hq : ∀ i, 0 ≤ i → i < pcs L0 → 4 ≤ q i ∧ q i < 1024) (h0 : 0 < pcs L0 → Rz 1024 4 D (v + 2) = q 0) (h1 : ∀ i, 0 ≤ i → i + 1 < pcs L0 → Rz 1024 4 D (q i) = q (i + 1)) :
    ∀ (f : Nat) (i : Int), 0 ≤ i → i ≤ s → (s - i).toNat < f → ∀ K, pV_changeLength_45 s f (if i = 0 then v + 2 else q (i - 1)) i D K = K (if s = 0 then v + 2 else q (s - 1)) D := by
  intro f
  induction f with
  | zero => intro i a b c; omega
  | succ f ih =>
    intro i a b c K
    rw [pV_changeLength_45, w32_of (z := i) (by omega), w32_of (z := s) (by omega)]
    by_cases z : i < s
    · simp only [ltR]
      have e : pI_unitAt (if i = 0 then v + 2 else q (i - 1)) D = q i := by
        unfold pI_unitAt
        by_cases y : i = 0
        · rw [if_pos y, rd_R (by omega), h0 (by omega), y]
        · have := hq (i - 1) (by omega) (by omega)
          rw [if_neg y, rd_R (by omega), h1 (i - 1) (by omega) (by omega), show i - 1 + 1 = i by omega]
      rw [if_pos z, e]
      have := ih (i + 1) (by omega) (by omega) (by omega) K
      rw [if_neg (by omega), show i + 1 - 1 = i by omega] at this
      exact this
    · rw [if_neg z, show i = s by omega]
theorem head_c {n L : Int} (hn : 0 ≤ n ∧ n ≤ 99) (hL : 0 ≤ L ∧ L ≤ 30) : Int.tdiv (w32 (n * 31 + L)) 31 = n := by
  rw [w32_of (by omega), tdiv_pos (by omega)]
  omega
theorem resizes_both {k j s L0 L' v p c : Int} {g : Int → Int} (h : Tr Dc Dm) (hk : 0 ≤ k ∧ k < 80) (ht : th Dm k) (hj : 0 ≤ j ∧ j < Rz 240 48 Dm k) (hv : vP Dm k j = v) (hL0 : vL Dm k j = L0) (hp : Rz 240 40 Dm k = p) (hL' : 0 ≤ L' ∧ L' ≤ 30) (hs : 0 ≤ s ∧ s ≤ pcs L0 ∧ s ≤ pcs L') (hsu : ∀ i, 0 ≤ i → i < s → upc L0 i = upc L' i) (hst : ∀ D, pM_stays L0 L' D = okR s D)
    (hc : c = pcs L' - s) (h37 : Dm 32 37 = c) (hg : ∀ i, 0 ≤ i → i < c → Rz 6 9 Dc i = g i ∧ Rz 8 66 Dm i = g i ∧ Fs (th Dm) (Rz 768 56 Dm) (Rz 768 57 Dm) Dc Dm (g i) (2 + upc L' (s + i)) ∧ (4 ≤ g i ∧ g i + (2 + upc L' (s + i)) ≤ 1024)) (hgn : ∀ i i', 0 ≤ i → i < i' → i' < c → g i ≠ g i')
    (hDy : ∀ t, 0 ≤ t → t < 64 → (bit (Dc 7 5) t = true ↔ w32 (Rz 64 58 Dm t) ≠ 0 ∨ ∃ i, 0 ≤ i ∧ i < c ∧ sec (g i) (2 + upc L' (s + i)) t)) (hW : Wt Dc Dm m) (hm : m ≤ 700000) :
    ∃ Dc1 Dc' Dm', (pV_changeLength_45 s fu (v + 2) 0 Dc fun x2 D5 => ltR (pI_unitAt x2 D5) fun x3 => bnd (pV_chainPieces x2 ((pV_pieceCount L') - s) D5) fun _ D6 => bnd (pV_giveBackPieces x3 D6) fun v3 D7 => gD (pV_putHead v (Int.tdiv (w32 (pI_unitAt (v + 0) D7)) 31) L' D7) fun D8 => bnd (pC_markWritten v D8) fun _ D9 => bnd (pC_markWritten p D9) fun _ D10 => okR 1 D10) = okR 1 Dc1 ∧ pH_tellUpwards k 2 Dc1 = okR 0 Dc' ∧
      (rdA 1920 53 (8 * k + j) Dm fun v3 => bnd (pM_stays v3 L' Dm) fun v4 D6 => bnd (pM_writesGot D6) fun _ D7 => bnd (pM_givesPieces (8 * k + j) v4 D7) fun _ D8 => pM_resize_122 L' (8 * k + j) v4 fu v4 D8 fun D9 => wrA 1920 53 (8 * k + j) L' D9 fun D10 => rdA 1920 54 (8 * k + j) D10 fun v5 => bnd (pM_writes v5 D10) fun _ D11 => rdA 240 40 k D11 fun v6 => bnd (pM_writes v6 D11) fun _ D12 => bnd (pM_changes k 2 D12) fun _ D13 => okR v3 D13) = okR L0 Dm' ∧
      Tr Dc' Dm' ∧ Dy Dc' Dm' ∧ Wt Dc' Dm' (m + 80) ∧ Oc Dc Dc' ∧ Om Dm Dm' ∧ Dm' 32 42 = Dm 32 42 := by
  have hkr := St.kr h hk ht
  have inK : ∀ {a i p s}, LbK Dm k a i p s → Lb (th Dm) (Rz 768 56 Dm) (Rz 768 57 Dm) Dm a i p s := fun z => Or.inl ⟨k, hk.1, hk.2, ht, z⟩
  obtain ⟨pk1, pk2, pk3⟩ := h.place hk ht
  rw [hp] at pk1 pk2 pk3
  have hV := hkr.2.2.2.2.2.2
  have v8 := hV.1
  obtain ⟨c1, c2, c3, c4, c5, c6, c7⟩ := hV.2.2.2.1 j hj.1 hj.2
  rw [hL0] at c2 c4 c6 c7
  rw [hv] at c3 c4 c5 c6
  have hT := h.1.1.1
  have hsc := h.1.1.2.1
  have vt := hT.1 v (by omega)
  have hp0 := pcs_bd c2
  have hp1 := pcs_bd hL'
  have lv : LbK Dm k 54 (8 * k + j) v 3 := by
    have := LbK.val (D := Dm) (k := k) hj.1 hj.2
    rw [hv] at this
    exact this
  have lq : ∀ i, 0 ≤ i → i < pcs L0 → LbK Dm k 55 (4 * (8 * k + j) + i) (vQ Dm k j i) (2 + upc L0 i) := fun i a b => by
    have := LbK.pie (D := Dm) (k := k) (j := j) (m := i) hj.1 hj.2 a (by rw [hL0]; exact b)
    rw [hL0] at this
    exact this
  have ub : ∀ i, 0 ≤ i → i < pcs L0 → 1 ≤ upc L0 i ∧ upc L0 i ≤ 8 := fun i a b => upc_bd c2 ⟨a, b⟩
  have ub' : ∀ i, 0 ≤ i → i < pcs L' → 1 ≤ upc L' i ∧ upc L' i ≤ 8 := fun i a b => upc_bd hL' ⟨a, b⟩
  have qb : ∀ i, 0 ≤ i → i < pcs L0 → 4 ≤ vQ Dm k j i ∧ vQ Dm k j i + (2 + upc L0 i) ≤ 1024 := fun i a b => by
    have := hkr.lb (lq i a b)
    have := hT.1 (vQ Dm k j i) (by have := ub i a b; omega)
    omega
  obtain ⟨x, hx⟩ : ∃ x, x = if s = 0 then v + 2 else vQ Dm k j (s - 1) := ⟨_, rfl⟩
  have xb : 4 ≤ x ∧ x < 1024 := by
    rw [hx]
    by_cases z : s = 0
    · rw [if_pos z]; omega
    · rw [if_neg z]
      have := qb (s - 1) (by omega) (by omega)
      have := ub (s - 1) (by omega) (by omega)
      omega
  have gl : ∀ a i p t, Lb (th Dm) (Rz 768 56 Dm) (Rz 768 57 Dm) Dm a i p t → ∀ i', 0 ≤ i' → i' < c → g i' + (2 + upc L' (s + i')) ≤ p ∨ p + t ≤ g i' := fun a i p t l i' x1 x2 => (hg i' x1 x2).2.2.1.dis h.1 l
  have xg : ∀ i, 0 ≤ i → i < c → x ≠ g i := fun i a b => by
    rw [hx]
    have := ub' (s + i) (by omega) (by omega)
    by_cases z : s = 0
    · rw [if_pos z]
      have := gl _ _ _ _ (inK lv) i a b
      omega
    · rw [if_neg z]
      have := gl _ _ _ _ (inK (lq (s - 1) (by omega) (by omega))) i a b
      have := ub (s - 1) (by omega) (by omega)
      omega
  -- the class: chain
  obtain ⟨D1, a1, a2, a3, a4, a5⟩ := chain_c (q := g) (m := c) (l := x) (D := Dc) (by omega) (fun i a b => by
    obtain ⟨e1, -, -, e2⟩ := hg i a b
    have := ub' (s + i) (by omega) (by omega)
    exact ⟨e1, by omega, by omega⟩) hgn (by omega) xg
  have ux0 : Rz 1024 4 Dc x = if s < pcs L0 then vQ Dm k j s else 0 := by
    rw [hx]
    by_cases z : s = 0
    · rw [if_pos z, c6, z]
      by_cases z2 : pcs L0 = 0
      · rw [if_pos z2, if_neg (by omega)]
      · rw [if_neg z2, if_pos (by omega)]
    · rw [if_neg z, (c7 (s - 1) (by omega) (by omega)).2, show s - 1 + 1 = s by omega]
  -- the reference: marks
  obtain ⟨E1, r1, r2⟩ := writesGot_m (g := g) (w := fun i => 2 + upc L' (s + i)) (D := Dm) (by omega) h37 (fun i x1 x2 => by
    obtain ⟨y1, y2, y3, y4⟩ := hg i x1 x2
    exact ⟨y2, by rw [h.1.1.2.2.2 _ (by omega) (by have := y3.2.1; omega)]; exact y3.1, y3.2.1, by omega, y4.2⟩)
  have f1 : ∀ b, b ≠ 58 → E1 b = Dm b := r2.1
  -- the old pieces are given back
  have hC1 : CR D1 E1 := h.1.1.cong (fun u => R_cg (a2 3 (by decide)) u) (by rw [a2 2 (by decide)]) (fun u _ _ => R_cg (f1 33 (by decide)) u) (by rw [f1 34 (by decide)])
  have e53 : Rz 1920 53 E1 (8 * k + j) = L0 := by rw [R_cg (f1 53 (by decide))]; exact hL0
  obtain ⟨D2, E2, V, g1, g2, g3, g4, g5, g6, g7, g8, g9, g10, g11, g12⟩ := pieces_loop (q := fun i => vQ Dm k j (s + i)) (w := fun i => 2 + upc L0 (s + i)) (x := 8 * k + j) (fr := s) (m := pcs L0 - s) (by omega) hs.1 (by omega) (by omega) (pcs L0 - s).toNat fu fu 0 0 D1 E1 (fu_gt (by omega)) (fu_gt (by omega)) (by omega) (by omega) hC1
    (fun i x y => by
      have := ub (s + i) (by omega) (by omega)
      exact ⟨by rw [R_cg (a2 3 (by decide))]; exact (c7 (s + i) (by omega) (by omega)).1, by omega, by omega⟩) (fun i x1 x2 => by
      have e1 : vQ Dm k j (s + i) ≠ x := by
        rw [hx]
        have := ub (s + i) (by omega) (by omega)
        by_cases z : s = 0
        · rw [if_pos z]
          have := h.1.dis (inK (lq (s + i) (by omega) (by omega))) (inK lv) (Or.inl (by decide))
          omega
        · rw [if_neg z]
          exact h.1.ne (inK (lq (s + i) (by omega) (by omega))) (inK (lq (s - 1) (by omega) (by omega))) (Or.inr (by omega))
      rw [a5 _ e1 (fun i' y1 y2 => by
        have := gl _ _ _ _ (inK (lq (s + i) (by omega) (by omega))) i' y1 y2
        have := ub' (s + i') (by omega) (by omega)
        have := ub (s + i) (by omega) (by omega)
        omega), (c7 (s + i) (by omega) (by omega)).2]
      by_cases z : i + 1 < pcs L0 - s
      · rw [if_pos z, if_pos (by omega), Int.add_assoc]
      · rw [if_neg z, if_neg (by omega)]) (fun i i' x1 x2 x3 => h.1.ne (inK (lq (s + i) (by omega) (by omega))) (inK (lq (s + i') (by omega) (by omega))) (Or.inr (by omega))) (by rw [e53]; exact c2) (by rw [e53]; omega) (fun i x1 x2 => by rw [R_cg (f1 55 (by decide))]; rfl)
  have e4 : ∀ u, Rz 1024 4 D2 u = Rz 1024 4 D1 u := fun u => R_cg (g4 4 (by decide)) u
  have vx : v ≠ x ∧ v + 1 ≠ x := by
    rw [hx]
    by_cases z : s = 0
    · rw [if_pos z]; omega
    · rw [if_neg z]
      have := h.1.dis (inK lv) (inK (lq (s - 1) (by omega) (by omega))) (Or.inl (by decide))
      have := ub (s - 1) (by omega) (by omega)
      omega
  have vg : ∀ i, 0 ≤ i → i < c → v ≠ g i ∧ v + 1 ≠ g i := fun i a b => by
    have := gl _ _ _ _ (inK lv) i a b
    have := ub' (s + i) (by omega) (by omega)
    omega
  have uv : Rz 1024 4 D2 v = vN Dm k j * 31 + L0 := by rw [e4, a5 v vx.1 (fun i a b => (vg i a b).1), c4]
  have uv1 : Rz 1024 4 D2 (v + 1) = vS Dm k j := by rw [e4, a5 _ vx.2 (fun i a b => (vg i a b).2), c5]
  -- what is left has its sizes
  have szo : ∀ u, (∀ i, s ≤ i → i < pcs L0 → u ≠ vQ Dm k j i) → 0 < Rz 1024 3 Dc u → Rz 1024 3 D2 u = Rz 1024 3 Dc u := fun u e1 e2 => by
    rw [g10 u (fun i x1 x2 => e1 _ (by omega) (by omega)) (by rw [R_cg (a2 3 (by decide))]; exact e2), R_cg (a2 3 (by decide))]
  have s3 : Rz 1024 3 D2 v = 3 := by rw [szo v (fun i x1 x2 => h.1.ne (inK lv) (inK (lq i (by omega) x2)) (Or.inl (by decide))) (by omega), c3]
  have lk := LbK.key (D := Dm) (k := k)
  rw [hp] at lk
  have s6 : Rz 1024 3 D2 p = 6 := by
    have := hkr.lb lk
    rw [szo p (fun i x1 x2 => h.1.ne (inK lk) (inK (lq i (by omega) x2)) (Or.inl (by decide))) (by omega), this.1]
  -- the class: head and marks
  obtain ⟨D3, y1, y2⟩ := mark_class (D := Tz 1024 4 D2 v (vN Dm k j * 31 + L')) (p := v) (n := 3) (by rw [R_T_ot (by decide)]; exact s3) (by decide) (by omega) (by omega)
  obtain ⟨D4, y3, y4⟩ := mark_class (D := D3) (p := p) (n := 6) (by rw [R_cg (y2.1 3 (by decide)), R_T_ot (by decide)]; exact s6) (by decide) (by omega) (by omega)
  -- the reference: pieces, length, marks
  obtain ⟨E3, z1, z2, z3, z4⟩ := rs_loop (X := 8 * k + j) (s := s) (L := L') (c := c) (by omega) hs.1 hL' fu s E2 (Int.le_refl _) hs.2.2 (fu_gt (by omega))
  obtain ⟨E4, z5, z6⟩ := mark_model (D := Tz 1920 53 E3 (8 * k + j) L') (p := v) (n := 3) (by rw [R_T_ot (by decide), R_cg (z2 33 (by decide)), g3.2.2.2 _ (by omega) (by omega)]; exact s3) (by decide) (by omega) (by omega)
  obtain ⟨E5, z7, z8⟩ := mark_model (D := E4) (p := p) (n := 6) (by rw [R_cg (z6.1 33 (by decide)), R_T_ot (by decide), R_cg (z2 33 (by decide)), g3.2.2.2 _ (by omega) (by omega)]; exact s6) (by decide) (by omega) (by omega)
  have om : ∀ b, b ∉ [32, 33, 53, 55, 58] → E5 b = Dm b := fun b hb => by
    rw [z8.1 b (nin hb (by decide)), z6.1 b (nin hb (by decide)), T_ot (nin hb (by decide)), z2 b (nin hb (by decide)), g6 b (nsub hb (by decide)), f1 b (nin hb (by decide))]
  have oc : ∀ b, b ∉ [3, 4, 7] → D4 b = Dc b := fun b hb => by
    rw [y4.1 b (nin hb (by decide)), y2.1 b (nin hb (by decide)), T_ot (nin hb (by decide)), g4 b (nsub hb (by decide)), a2 b (nin hb (by decide))]
  have o32 : ∀ j, j ≠ 41 → E5 32 j = Dm 32 j := fun j hj => by
    rw [z8.1 32 (by decide), z6.1 32 (by decide), T_ot (by decide), z2 32 (by decide), g7 j hj, f1 32 (by decide)]
  have n53 : ∀ i, Rz 1920 53 E5 i = if i = 8 * k + j then L' else Rz 1920 53 Dm i := fun i => by
    rw [R_cg (z8.1 53 (by decide)), R_cg (z6.1 53 (by decide)), R_T, R_cg (z2 53 (by decide)), R_cg (g6 53 (by decide)), R_cg (f1 53 (by decide))]
    by_cases e : i = 8 * k + j
    · rw [if_pos ⟨by omega, e⟩, if_pos e]
    · rw [if_neg (fun u => e u.2), if_neg e]
  have n55 : ∀ u, Rz 7680 55 E5 u = if 4 * (8 * k + j) + s ≤ u ∧ u < 4 * (8 * k + j) + pcs L' then Rz 8 66 Dm (u - 4 * (8 * k + j) - s) else Rz 7680 55 Dm u := fun u => by
    rw [R_cg (z8.1 55 (by decide)), R_cg (z6.1 55 (by decide)), R_T_ot (by decide), z4 u, R_cg (g6 66 (by decide)), R_cg (g6 55 (by decide)), R_cg (f1 66 (by decide)), R_cg (f1 55 (by decide))]
  have un4 : ∀ u, Rz 1024 4 D4 u = if u = v then vN Dm k j * 31 + L' else Rz 1024 4 D1 u := fun u => by
    rw [R_cg (y4.1 4 (by decide)), R_cg (y2.1 4 (by decide)), R_T, e4]
    by_cases e : u = v
    · rw [if_pos ⟨by omega, e⟩, if_pos e]
    · rw [if_neg (fun u => e u.2), if_neg e]
  have sz4 : ∀ u, Rz 1024 3 D4 u = Rz 1024 3 D2 u := fun u => by rw [R_cg (y4.1 3 (by decide)), R_cg (y2.1 3 (by decide)), R_T_ot (by decide)]
  have hC4 : CR D4 E5 := g3.cong sz4 (by rw [oc 2 (by decide), g4 2 (by decide), a2 2 (by decide)]) (fun u _ _ => by rw [R_cg (z8.1 33 (by decide)), R_cg (z6.1 33 (by decide)), R_T_ot (by decide), R_cg (z2 33 (by decide))]) (by rw [z8.1 34 (by decide), z6.1 34 (by decide), T_ot (by decide), z2 34 (by decide)])
  have hT4 : T0 (th Dm) (Rz 768 56 Dm) (Rz 768 57 Dm) D4 E5 := by
    refine h.1.value (k := k) (j := j) (s := s) (L0 := L0) (L' := L') (sd' := vS Dm k j) (v := v) (x := x) (g := g) hk ht hj hv hL0 hL' hs hsu hx (fun i a b => (hg i a (by omega)).2.2.1) (fun i i' a b d => hgn i i' a b (by omega)) hC4 (by rw [oc 2 (by decide), om 35 (by decide)]; exact h.1.2.1) (oc 5 (by decide)) (oc 6 (by decide)) (fun b u1 u2 u3 u4 => om b (by simp only [List.mem_cons, List.not_mem_nil, or_false]; omega)) (fun i i1 i2 i3 => ⟨fun a z => R_cg (om a (by simp only [List.mem_cons, List.not_mem_nil, or_false] at z ⊢; omega)) i, fun a z t t1 t2 => ?_, fun a z t t1 t2 => ?_⟩)
      (fun i i1 i2 => ?_) (fun i i1 i2 => ?_) (fun i t i1 i2 t1 t2 e => ?_) (fun t t1 t2 => ?_) (fun u e1 e2 => by rw [sz4]; exact szo u e1 e2) ?_ ?_ ?_ (fun i i1 i2 => ?_) (fun u e1 e2 e3 e4 => ?_)
    · by_cases e : a = 53
      · subst e
        rw [n53, if_neg (by omega)]
      · exact R_cg (om a (by simp only [List.mem_cons, List.not_mem_nil, or_false] at z ⊢; omega)) _
    · by_cases e : a = 55
      · subst e
        rw [n55, if_neg (by omega)]
      · exact R_cg (om a (by simp only [List.mem_cons, List.not_mem_nil, or_false] at z ⊢; omega)) _
    · show Rz 1920 53 E5 (8 * k + i) = _
      rw [n53]
      by_cases e : i = j
      · rw [if_pos (by omega), if_pos e]
      · rw [if_neg (by omega), if_neg e]; rfl
    · by_cases e : i = j
      · rw [if_pos e, e]; exact R_cg (om 52 (by decide)) _
      · rw [if_neg e]; exact R_cg (om 52 (by decide)) _
    · show Rz 7680 55 E5 (4 * (8 * k + i) + t) = _
      rw [n55, if_neg (by omega)]; rfl
    · show Rz 7680 55 E5 (4 * (8 * k + j) + t) = _
      rw [n55, if_pos (by omega), show 4 * (8 * k + j) + t - 4 * (8 * k + j) - s = t - s by omega]
      exact (hg (t - s) (by omega) (by omega)).2.1
    · rw [un4, if_pos rfl]
    · rw [un4, if_neg (by omega), ← e4, uv1]
    · rw [un4, if_neg (fun e => vx.1 e.symm), a3]
      by_cases z : s < pcs L'
      · rw [if_pos (by omega), if_pos z]
      · rw [if_neg (by omega), if_neg z]
    · rw [un4, if_neg (fun e => (vg i i1 (by omega)).1 e.symm), a4 i i1 (by omega), hc]
    · rw [un4, if_neg e1, a5 u e3 (fun i i1 i2 => e4 i i1 (by omega))]
  have eth : th E5 = th Dm := th_fn (om 36 (by decide))
  have hTr : Tr D4 E5 := ⟨by rw [eth, Rz_fn (om 56 (by decide)), Rz_fn (om 57 (by decide))]; exact hT4, h.2.of (fun b hb => om b (by simp only [List.mem_cons, List.not_mem_nil, or_false] at hb ⊢; omega))⟩
  have hDy4 : Dy D4 E5 := fun t t1 t2 => by
    have d1 : bit (Tz 1024 4 D2 v (vN Dm k j * 31 + L') 7 5) t = bit (D2 7 5) t := by rw [T_ot (by decide)]
    have d2 : bit (D1 7 5) t = bit (Dc 7 5) t := by rw [a2 7 (by decide)]
    have d3 : Rz 64 58 (Tz 1920 53 E3 (8 * k + j) L') t = Rz 64 58 E2 t := by rw [R_T_ot (by decide), R_cg (z2 58 (by decide))]
    rw [y4.2.2 t t1 t2, y2.2.2 t t1 t2, d1, g11 t t1 t2, d2, hDy t t1 t2, z8.2 t t1 t2, z6.2 t t1 t2, d3, g12 t t1 t2, r2.2 t t1 t2]
  have hhi : HiEq Dm E5 := (((HiEq.ot (fun b u1 u2 => f1 b (by omega))).trans (g9.trans z3)).trans ((HiEq.T (n := 1920) (a := 53) (m := 640) (by decide) (by omega)).trans (HiEq.ot (fun b u1 u2 => z6.1 b (by omega))))).trans (HiEq.ot (fun b u1 u2 => z8.1 b (by omega)))
  have hW4 : Wt D4 E5 m := hW.cong (oc 16 (by decide)) (oc 17 (by decide)) (oc 18 (by decide)) (oc 19 (by decide)) (by rw [oc 15 (by decide)]) (om 59 (by decide)) (om 60 (by decide)) (om 61 (by decide)) (om 62 (by decide)) (om 63 (by decide)) (o32 29 (by decide))
  obtain ⟨D6, E6, v1, v2, v3, v4, v5, v6, v7, v8, -⟩ := told_both hTr hDy4 hW4 (by omega) hk (by rw [eth]; exact ht) (x := 2) (by omega)
  refine ⟨D4, D6, E6, ?_, v1, ?_, v3, v4, v5, fun b hb => (v6 b hb).trans (oc b (by simp only [List.mem_cons, List.not_mem_nil, or_false]; omega)), (show Om Dm E5 from ⟨fun b hb => om b (by simp only [List.mem_cons, List.not_mem_nil, or_false]; omega), fun j _ _ => o32 j (by omega), hhi⟩).trans v7, by rw [v8, o32 42 (by decide)]⟩
  · have w := walk_loop (s := s) (v := v) (L0 := L0) (q := vQ Dm k j) (D := Dc) ⟨hs.1, hs.2.1, hp0.2⟩ (by omega) (fun i a b => by have := qb i a b; have := ub i a b; omega) (fun z => by rw [c6, if_neg (by omega)]) (fun i a b => by rw [(c7 i a (by omega)).2, if_pos b]) fu 0 (Int.le_refl _) hs.1 (fu_gt (by omega))
    rw [if_pos rfl, ← hx] at w
    rw [w]
    simp only [ltR, gD]
    unfold pV_giveBackPieces pV_putHead pI_putUnit pI_unitAt
    simp only [gD]
    have e0 : (if s < pcs L0 then vQ Dm k j s else 0) = if 0 < pcs L0 - s then vQ Dm k j (s + 0) else 0 := by
      rw [Int.add_zero]
      by_cases z : s < pcs L0
      · rw [if_pos z, if_pos (by omega)]
      · rw [if_neg z, if_neg (by omega)]
    rw [rd_R (by omega), ux0, e0, pieceCount_c hL', ← hc, a1, bnd_ok, g1, bnd_ok, Int.add_zero, rd_R (by omega), uv, head_c c1 c2, sto_T (by omega), y1, bnd_ok, y3, bnd_ok]
  · rw [rdA_R (by omega), show Rz 1920 53 Dm (8 * k + j) = L0 from hL0, hst, bnd_ok, r1, bnd_ok]
    unfold pM_givesPieces
    rw [Int.add_zero] at g2
    rw [g2, bnd_ok, z1, wrA_T (by omega), rdA_R (by omega), R_T_ot (by decide), R_cg (z2 54 (by decide)), R_cg (g6 54 (by decide)), R_cg (f1 54 (by decide)), show Rz 1920 54 Dm (8 * k + j) = v from hv, z5, bnd_ok, rdA_R (by omega), R_cg (z6.1 40 (by decide)), R_T_ot (by decide), R_cg (z2 40 (by decide)), R_cg (g6 40 (by decide)), R_cg (f1 40 (by decide)), hp, z7, bnd_ok, v2, bnd_ok]
end RESIZE
