/-! what is wanted, side by side -/
def Wn (Dc Dm : DD) (c : Int) (w : Int → Int) : Prop := Dc 7 4 = c ∧ Dm 32 37 = c ∧ ∀ i, 0 ≤ i → i < c → Rz 6 8 Dc i = w i ∧ Rz 8 65 Dm i = w i ∧ 1 ≤ w i ∧ w i ≤ 1000
def Gc (D D' : DD) : Prop := (∀ b, b ∉ [7, 8] → D' b = D b) ∧ ∀ k, k ≠ 4 → D' 7 k = D 7 k
def Gm (D D' : DD) : Prop := (∀ b, b ∉ [32, 65] → D' b = D b) ∧ ∀ k, k ≠ 37 → D' 32 k = D 32 k
theorem Gc.rf (D : DD) : Gc D D := ⟨fun _ _ => rfl, fun _ _ => rfl⟩
theorem Gm.rf (D : DD) : Gm D D := ⟨fun _ _ => rfl, fun _ _ => rfl⟩
theorem Gc.trans {D D1 D2 : DD} (h : Gc D D1) (g : Gc D1 D2) : Gc D D2 := ⟨fun b hb => (g.1 b hb).trans (h.1 b hb), fun k hk => (g.2 k hk).trans (h.2 k hk)⟩
theorem Gm.trans {D D1 D2 : DD} (h : Gm D D1) (g : Gm D1 D2) : Gm D D2 := ⟨fun b hb => (g.1 b hb).trans (h.1 b hb), fun k hk => (g.2 k hk).trans (h.2 k hk)⟩
theorem Gm.hi {D D' : DD} (h : Gm D D') : HiEq D D' := fun a k h1 h2 _ => by rw [h.1 a (by intro z; simp only [List.mem_cons, List.not_mem_nil, or_false] at z; omega)]
theorem Wn.cong {Dc Dm : DD} {c : Int} {w v : Int → Int} (h : Wn Dc Dm c w) (hv : ∀ i, 0 ≤ i → i < c → v i = w i) : Wn Dc Dm c v := ⟨h.1, h.2.1, fun i a b => by rw [hv i a b]; exact h.2.2 i a b⟩
theorem wantNothing_both (Dc Dm : DD) (w : Int → Int) : Gc Dc (pC_wantNothing Dc) ∧ Gm Dm (up2 Dm 32 37 0) ∧ Wn (pC_wantNothing Dc) (up2 Dm 32 37 0) 0 w := by
  unfold pC_wantNothing
  simp only [gD]
  refine ⟨⟨fun b hb => up2_ot (nin hb (by decide)), fun k hk => up2_nk hk⟩, ⟨fun b hb => up2_ot (nin hb (by decide)), fun k hk => up2_nk hk⟩, up2_eq .., up2_eq .., fun i a b => by omega⟩
theorem want_both {Dc Dm : DD} {c n : Int} {w : Int → Int} (h : Wn Dc Dm c w) (hc : 0 ≤ c ∧ c < 6) (hn : 1 ≤ n ∧ n ≤ 1000) :
    ∃ Dm', pM_wants n Dm = okR 0 Dm' ∧ Gc Dc (pC_want n Dc) ∧ Gm Dm Dm' ∧ Wn (pC_want n Dc) Dm' (c + 1) (fun i => if i = c then n else w i) := by
  obtain ⟨h1, h2, h3⟩ := h
  refine ⟨up2 (Tz 8 65 Dm c n) 32 37 (c + 1), ?_, ?_, ?_, ?_⟩
  · unfold pM_wants
    rw [h2, wrA_T ⟨hc.1, by omega, by decide⟩]
    simp only [gD]
    rw [T_ot (by decide), h2]
  · unfold pC_want
    simp only [gD]
    rw [h1, sto_T (by omega)]
    exact ⟨fun b hb => (up2_ot (nin hb (by decide))).trans (T_ot (nin hb (by decide))), fun k hk => (up2_nk hk).trans (by rw [T_ot (by decide)])⟩
  · exact ⟨fun b hb => (up2_ot (nin hb (by decide))).trans (T_ot (nin hb (by decide))), fun k hk => (up2_nk hk).trans (by rw [T_ot (by decide)])⟩
  · unfold pC_want
    simp only [gD]
    rw [h1, sto_T (by omega)]
    refine ⟨?_, up2_eq .., fun i a b => ?_⟩
    · rw [up2_eq, T_ot (by decide), h1]
    · rw [R_up2_ot (by decide), R_up2_ot (by decide), R_T, R_T]
      dsimp only
      by_cases g : i = c
      · rw [if_pos ⟨⟨hc.1, by omega⟩, g⟩, if_pos g, if_pos ⟨⟨hc.1, by omega⟩, g⟩]
        exact ⟨rfl, rfl, hn⟩
      · rw [if_neg (fun z => g z.2), if_neg g, if_neg (fun z => g z.2)]
        exact h3 i a (by omega)
theorem wantPieces_both {L : Int} (hL : 0 ≤ L ∧ L ≤ 30) : ∀ (r : Nat) (f g : Nat) (i c : Int) (Dc Dm : DD) (w : Int → Int), r < f → r < g → 0 ≤ i → i + r = pcs L → Wn Dc Dm c w → 0 ≤ c → c + r ≤ 6 →
    ∃ Dc' Dm', pV_wantPieces_8 L (pcs L) f i Dc = okR 0 Dc' ∧ (∀ K, pM_cannotSet_45 L g i Dm K = K Dm') ∧ (∀ K, pM_cannotResize_16 L g i Dm K = K Dm') ∧ Gc Dc Dc' ∧ Gm Dm Dm' ∧ Wn Dc' Dm' (c + r) (fun j => if j < c then w j else 2 + upc L (i + (j - c))) := by
  have hp := pcs_bd hL
  intro r
  induction r with
  | zero =>
    intro f g i c Dc Dm w hf hg i0 hi hW c0 hc
    match f, g, hf, hg with
    | f + 1, g + 1, _, _ =>
      refine ⟨Dc, Dm, ?_, fun K => ?_, fun K => ?_, Gc.rf _, Gm.rf _, ?_⟩
      · rw [pV_wantPieces_8, w32_of (z := i) (by omega), w32_of (z := pcs L) (by omega), if_neg (by omega)]
      · rw [pM_cannotSet_45, piecesFor_m hL, w32_of (z := i) (by omega), w32_of (z := pcs L) (by omega), if_neg (by omega)]
      · rw [pM_cannotResize_16, piecesFor_m hL, w32_of (z := i) (by omega), w32_of (z := pcs L) (by omega), if_neg (by omega)]
      · rw [show c + ((0 : Nat) : Int) = c by omega]
        exact hW.cong (fun j a b => if_pos b)
  | succ r ih =>
    intro f g i c Dc Dm w hf hg i0 hi hW c0 hc
    match f, g, hf, hg with
    | f + 1, g + 1, hf, hg =>
      have hu := upc_bd hL (i := i) ⟨i0, by omega⟩
      obtain ⟨Dm1, k1, k2, k3, k4⟩ := want_both hW ⟨c0, by omega⟩ (n := 2 + upc L i) (by omega)
      obtain ⟨Dc', Dm', g1, g2, g3, g4, g5, g6⟩ := ih f g (i + 1) (c + 1) _ Dm1 _ (by omega) (by omega) (by omega) (by omega) k4 (by omega) (by omega)
      refine ⟨Dc', Dm', ?_, fun K => ?_, fun K => ?_, k2.trans g4, k3.trans g5, ?_⟩
      · rw [pV_wantPieces_8, w32_of (z := i) (by omega), w32_of (z := pcs L) (by omega), if_pos (by omega), unitsIn_c hL ⟨i0, by omega⟩]
        simp only [gD]
        exact g1
      · rw [pM_cannotSet_45, piecesFor_m hL, w32_of (z := i) (by omega), w32_of (z := pcs L) (by omega), if_pos (by omega), unitsIn_m hL ⟨i0, by omega⟩, Int.add_comm, k1, bnd_ok]
        exact g2 K
      · rw [pM_cannotResize_16, piecesFor_m hL, w32_of (z := i) (by omega), w32_of (z := pcs L) (by omega), if_pos (by omega), unitsIn_m hL ⟨i0, by omega⟩, Int.add_comm, k1, bnd_ok]
        exact g3 K
      · rw [show c + ((r + 1 : Nat) : Int) = c + 1 + r by omega]
        refine g6.cong (fun j a b => ?_)
        by_cases q : j < c
        · rw [if_pos q, if_pos (show j < c + 1 by omega), if_neg (show ¬ j = c by omega)]
        · by_cases q2 : j = c
          · subst q2
            rw [if_neg q, if_pos (show j < j + 1 by omega), if_pos rfl, Int.sub_self, Int.add_zero]
          · rw [if_neg q, if_neg (show ¬ j < c + 1 by omega)]
            congr 2
            omega
/-- pieces are chained -/
theorem chain_loop {q : Int → Int} {m : Int} (hm : 0 ≤ m ∧ m ≤ 4) : ∀ (r : Nat) (f : Nat) (i l : Int) (D : DD), r < f → 0 ≤ i → i + r = m → (∀ j, 0 ≤ j → j < m → Rz 6 9 D j = q j ∧ 4 ≤ q j ∧ q j < 1024) → (∀ j j', i ≤ j → j < j' → j' < m → q j ≠ q j') → (0 ≤ l ∧ l < 1024) → (∀ j, i ≤ j → j < m → l ≠ q j) →
    ∃ D', pV_chainPieces_5 m f l i D (fun x1 D1 => gD (pI_putUnit x1 0 D1) fun D2 => okR 0 D2) = okR 0 D' ∧ (∀ b, b ≠ 4 → D' b = D b) ∧ Rz 1024 4 D' l = (if i < m then q i else 0) ∧ (∀ j, i ≤ j → j < m → Rz 1024 4 D' (q j) = if j + 1 < m then q (j + 1) else 0) ∧ ∀ u, u ≠ l → (∀ j, i ≤ j → j < m → u ≠ q j) → Rz 1024 4 D' u = Rz 1024 4 D u := by
  intro r
  induction r with
  | zero =>
    intro f i l D hf i0 hi hq hd hl hlq
    match f, hf with
    | f + 1, _ =>
      refine ⟨Tz 1024 4 D l 0, ?_, fun b hb => T_ot hb, ?_, fun j a b => by omega, fun u a _ => R_T_ne a⟩
      · rw [pV_chainPieces_5, w32_of (z := i) (by omega), w32_of (z := m) (by omega), if_neg (by omega)]
        simp only [gD, pI_putUnit]
        rw [sto_T (by omega)]
      · rw [R_T_eq hl, if_neg (by omega)]
  | succ r ih =>
    intro f i l D hf i0 hi hq hd hl hlq
    match f, hf with
    | f + 1, hf =>
      obtain ⟨q1, q2, q3⟩ := hq i i0 (by omega)
      obtain ⟨D', k1, k2, k3, k4, k5⟩ := ih f (i + 1) (q i) (Tz 1024 4 D l (q i)) (by omega) (by omega) (by omega) (fun j a b => by rw [R_T_ot (by decide)]; exact hq j a b) (fun j j' a b c => hd j j' (by omega) b c) (by omega) (fun j a b => hd i j (Int.le_refl _) (by omega) b)
      refine ⟨D', ?_, fun b hb => (k2 b hb).trans (T_ot hb), ?_, fun j a b => ?_, fun u a b => ?_⟩
      · rw [pV_chainPieces_5, w32_of (z := i) (by omega), w32_of (z := m) (by omega), if_pos (by omega)]
        simp only [gD, pI_putUnit, pC_got, ltR]
        rw [show rd 6 9 i D = q i by rw [rd_R (by omega), q1], sto_T (by omega), show rd 6 9 i (Tz 1024 4 D l (q i)) = q i by rw [rd_R (by omega), R_T_ot (by decide), q1]]
        exact k1
      · rw [k5 l (hlq i (Int.le_refl _) (by omega)) (fun j a b => hlq j (by omega) b), R_T_eq hl, if_pos (by omega)]
      · by_cases z : j = i
        · subst z
          exact k3
        · exact k4 j (by omega) b
      · rw [k5 u (b i (Int.le_refl _) (by omega)) (fun j c d => b j (by omega) d), R_T_ne a]
theorem chain_c {q : Int → Int} {m l : Int} {D : DD} (hm : 0 ≤ m ∧ m ≤ 4) (hq : ∀ j, 0 ≤ j → j < m → Rz 6 9 D j = q j ∧ 4 ≤ q j ∧ q j < 1024) (hd : ∀ j j', 0 ≤ j → j < j' → j' < m → q j ≠ q j') (hl : 0 ≤ l ∧ l < 1024) (hlq : ∀ j, 0 ≤ j → j < m → l ≠ q j) :
    ∃ D', pV_chainPieces l m D = okR 0 D' ∧ (∀ b, b ≠ 4 → D' b = D b) ∧ Rz 1024 4 D' l = (if 0 < m then q 0 else 0) ∧ (∀ j, 0 ≤ j → j < m → Rz 1024 4 D' (q j) = if j + 1 < m then q (j + 1) else 0) ∧ ∀ u, u ≠ l → (∀ j, 0 ≤ j → j < m → u ≠ q j) → Rz 1024 4 D' u = Rz 1024 4 D u := by
  unfold pV_chainPieces
  exact chain_loop hm m.toNat fu 0 l D (fu_gt (by omega)) (Int.le_refl _) (by omega) hq hd hl hlq
/-- how many pieces stay -/
theorem stays_both {a b : Int} (ha : 0 ≤ a ∧ a ≤ 30) (hb : 0 ≤ b ∧ b ≤ 30) : ∃ s, (0 ≤ s ∧ s ≤ pcs a ∧ s ≤ pcs b) ∧ (∀ i, 0 ≤ i → i < s → upc a i = upc b i) ∧ (∀ D, pV_piecesAlike a b D = okR s D) ∧ ∀ D, pM_stays a b D = okR s D := by
  have h1 := pcs_bd ha
  have h2 := pcs_bd hb
  obtain ⟨m, hm, hm2⟩ : ∃ m, zmin (pcs a) (pcs b) = m ∧ m = if pcs b < pcs a then pcs b else pcs a := ⟨_, rfl, by
    unfold zmin
    rw [w32_of (z := pcs a) (by omega), w32_of (z := pcs b) (by omega)]⟩
  have hm3 : 0 ≤ m ∧ m ≤ pcs a ∧ m ≤ pcs b ∧ (m = pcs a ∨ m = pcs b) := by
    rw [hm2]
    split <;> omega
  have key : ∀ (r : Nat) (f g : Nat) (i : Int), r < f → r < g → 0 ≤ i → i + r = m → (∀ j, 0 ≤ j → j < i → upc a j = upc b j) → ∃ s, (0 ≤ s ∧ s ≤ pcs a ∧ s ≤ pcs b) ∧ (∀ i, 0 ≤ i → i < s → upc a i = upc b i) ∧ (∀ D, pV_piecesAlike_14 a b m f i D = okR s D) ∧ ∀ D, pM_stays_2 a b g i D = okR s D := by
    intro r
    induction r with
    | zero =>
      intro f g i hf hg i0 hi hj
      match f, g, hf, hg with
      | f + 1, g + 1, _, _ =>
        refine ⟨m, by omega, fun j c d => hj j c (by omega), fun D => ?_, fun D => ?_⟩
        · rw [pV_piecesAlike_14, w32_of (z := i) (by omega), w32_of (z := m) (by omega), if_neg (by omega)]
        · rw [pM_stays_2, piecesFor_m ha, piecesFor_m hb, w32_of (z := i) (by omega), w32_of (z := pcs a) (by omega), w32_of (z := pcs b) (by omega), show i = m by omega]
          by_cases q : m < pcs a
          · rw [if_pos q, if_neg (by omega)]
          · rw [if_neg q]
    | succ r ih =>
      intro f g i hf hg i0 hi hj
      match f, g, hf, hg with
      | f + 1, g + 1, hf, hg =>
        have u1 := upc_bd ha (i := i) (by omega)
        have u2 := upc_bd hb (i := i) (by omega)
        by_cases q : upc a i = upc b i
        · obtain ⟨s, k1, k2, k3, k4⟩ := ih f g (i + 1) (by omega) (by omega) (by omega) (by omega) (fun j c d => by
            by_cases z : j = i
            · subst z; exact q
            · exact hj j c (by omega))
          refine ⟨s, k1, k2, fun D => ?_, fun D => ?_⟩
          · rw [pV_piecesAlike_14, w32_of (z := i) (by omega), w32_of (z := m) (by omega), if_pos (by omega), unitsIn_c ha (by omega), unitsIn_c hb (by omega), w32_of (z := upc a i) (by omega), w32_of (z := upc b i) (by omega), if_pos q]
            exact k3 D
          · rw [pM_stays_2, piecesFor_m ha, piecesFor_m hb, w32_of (z := i) (by omega), w32_of (z := pcs a) (by omega), w32_of (z := pcs b) (by omega), if_pos (by omega), if_pos (by omega), unitsIn_m ha (by omega), unitsIn_m hb (by omega), w32_of (z := upc a i) (by omega), w32_of (z := upc b i) (by omega), if_pos q]
            exact k4 D
        · refine ⟨i, by omega, hj, fun D => ?_, fun D => ?_⟩
          · rw [pV_piecesAlike_14, w32_of (z := i) (by omega), w32_of (z := m) (by omega), if_pos (by omega), unitsIn_c ha (by omega), unitsIn_c hb (by omega), w32_of (z := upc a i) (by omega), w32_of (z := upc b i) (by omega), if_neg q]
          · rw [pM_stays_2, piecesFor_m ha, piecesFor_m hb, w32_of (z := i) (by omega), w32_of (z := pcs a) (by omega), w32_of (z := pcs b) (by omega), if_pos (by omega), if_pos (by omega), unitsIn_m ha (by omega), unitsIn_m hb (by omega), w32_of (z := upc a i) (by omega), w32_of (z := upc b i) (by omega), if_neg q]
  obtain ⟨s, k1, k2, k3, k4⟩ := key m.toNat fu fu 0 (fu_gt (by omega)) (fu_gt (by omega)) (Int.le_refl _) (by omega) (fun j c d => by omega)
  refine ⟨s, k1, k2, fun D => ?_, k4⟩
  unfold pV_piecesAlike
  rw [pieceCount_c ha, pieceCount_c hb, hm]
  exact k3 D
