/-! values: their list, their cells, their pieces -/
def pcs (L : Int) : Int := if L < 2 then 0 else (L + 7) / 8
def upc (L i : Int) : Int := if 8 < L - 8 * i then 8 else L - 8 * i
theorem pcs_bd {L : Int} (h : 0 ≤ L ∧ L ≤ 30) : 0 ≤ pcs L ∧ pcs L ≤ 4 := by unfold pcs; split <;> omega
theorem upc_bd {L i : Int} (h : 0 ≤ L ∧ L ≤ 30) (hi : 0 ≤ i ∧ i < pcs L) : 1 ≤ upc L i ∧ upc L i ≤ 8 := by
  unfold pcs at hi
  unfold upc
  split at hi
  · omega
  · split <;> omega
theorem pieceCount_c {L : Int} (h : 0 ≤ L ∧ L ≤ 30) : pV_pieceCount L = pcs L := by
  unfold pV_pieceCount pcs
  rw [w32_of (z := L) (by omega), w32_of (z := L + 8 - 1) (by omega), tdiv_pos (by omega)]
  by_cases g : L < 2
  · rw [if_neg (by omega), if_pos g]
  · rw [if_pos (by omega), if_neg g]
    congr 1
    omega
theorem piecesFor_m {L : Int} (h : 0 ≤ L ∧ L ≤ 30) : pM_piecesFor L = pcs L := by
  unfold pM_piecesFor pcs
  rw [w32_of (z := L) (by omega), w32_of (z := L + 8 - 1) (by omega), tdiv_pos (by omega)]
  by_cases g : L < 2
  · rw [if_pos g, if_pos g]
  · rw [if_neg g, if_neg g]
    congr 1
    omega
theorem unitsIn_c {L i : Int} (h : 0 ≤ L ∧ L ≤ 30) (hi : 0 ≤ i ∧ i ≤ 4) : pV_unitsInPiece L i = upc L i := by
  unfold pV_unitsInPiece zmin upc
  rw [w32_of (z := L - 8 * i) (by omega), w32_of (z := 8) (by omega)]
  by_cases g : 8 < L - 8 * i
  · rw [if_neg (by omega), if_pos g]
  · rw [if_neg g]
    split
    · rfl
    · omega
theorem unitsIn_m {L i : Int} (h : 0 ≤ L ∧ L ≤ 30) (hi : 0 ≤ i ∧ i ≤ 4) : pM_unitsIn L i = upc L i := by
  unfold pM_unitsIn upc
  simp only [ltR]
  rw [w32_of (z := L - 8 * i) (by omega)]
/-- the values of a key in the units: n of them, their list l of z units; names, seeds, lengths, cells, pieces -/
def VC (un sz : Int → Int) (hd n l z : Int) (vn sd le vp : Int → Int) (pc : Int → Int → Int) : Prop :=
  (0 ≤ n ∧ n ≤ 8) ∧ hd = (if n = 0 then 0 else l) ∧
  (1 ≤ n → (z = 5 ∨ z = 9) ∧ sz l = z ∧ un l = n ∧ n + 1 ≤ z ∧ ∀ j, 0 ≤ j → j < n → un (l + 1 + j) = vp j) ∧
  (∀ j, 0 ≤ j → j < n → (0 ≤ vn j ∧ vn j ≤ 99) ∧ (0 ≤ le j ∧ le j ≤ 30) ∧ sz (vp j) = 3 ∧ un (vp j) = vn j * 31 + le j ∧ un (vp j + 1) = sd j ∧ un (vp j + 2) = (if pcs (le j) = 0 then 0 else pc j 0) ∧
    ∀ i, 0 ≤ i → i < pcs (le j) → sz (pc j i) = 2 + upc (le j) i ∧ un (pc j i) = (if i + 1 < pcs (le j) then pc j (i + 1) else 0)) ∧
  (∀ j j', 0 ≤ j → j < j' → j' < n → vn j ≠ vn j')
section VALUES
variable {D : DD} {e p n l z hd : Int} {vn sd le vp : Int → Int} {pc : Int → Int → Int}
theorem VC.lpos (h : VC (Rz 1024 4 D) (Rz 1024 3 D) hd n l z vn sd le vp pc) (hT : Til (Rz 1024 3 D) e) (he : e ≤ 1024) (h1 : 1 ≤ n) : 4 ≤ l ∧ l + z ≤ 1024 := by
  obtain ⟨a, b, -⟩ := h.2.2.1 h1
  have := hT.1 l (by omega)
  omega
theorem VC.vpos (h : VC (Rz 1024 4 D) (Rz 1024 3 D) hd n l z vn sd le vp pc) (hT : Til (Rz 1024 3 D) e) (he : e ≤ 1024) {j : Int} (h0 : 0 ≤ j) (h1 : j < n) : 4 ≤ vp j ∧ vp j + 3 ≤ 1024 := by
  obtain ⟨a, b, c, -⟩ := h.2.2.2.1 j h0 h1
  have := hT.1 (vp j) (by omega)
  omega
theorem VC.ppos (h : VC (Rz 1024 4 D) (Rz 1024 3 D) hd n l z vn sd le vp pc) (hT : Til (Rz 1024 3 D) e) (he : e ≤ 1024) {j i : Int} (h0 : 0 ≤ j) (h1 : j < n) (i0 : 0 ≤ i) (i1 : i < pcs (le j)) : 4 ≤ pc j i ∧ pc j i + (2 + upc (le j) i) ≤ 1024 := by
  obtain ⟨a, b, c, -, -, -, d⟩ := h.2.2.2.1 j h0 h1
  obtain ⟨d1, d2⟩ := d i i0 i1
  have := upc_bd b ⟨i0, i1⟩
  have := hT.1 (pc j i) (by omega)
  omega
theorem valueCount_c (h : VC (Rz 1024 4 D) (Rz 1024 3 D) hd n l z vn sd le vp pc) (hT : Til (Rz 1024 3 D) e) (he : e ≤ 1024) (hp : 0 ≤ p ∧ p ≤ 1018) (hh : Rz 1024 4 D (p + 3) = hd) : pV_valueCount p D = n := by
  have hl := h.lpos hT he
  have hn := h.1
  unfold pV_valueCount pI_unitAt pI_itemCount
  simp only [ltR]
  rw [rd_R (i := p + 3) (by omega), hh, h.2.1]
  by_cases g : n = 0
  · rw [if_pos g, if_pos w32_k0, g]
  · have := hl (by omega)
    have hz := (h.2.2.1 (by omega)).1
    rw [if_neg g, w32_of (z := l) (by omega), if_neg (by omega), rd_R (by omega)]
    exact (h.2.2.1 (by omega)).2.2.1
theorem cellNumbered_c (h : VC (Rz 1024 4 D) (Rz 1024 3 D) hd n l z vn sd le vp pc) (hT : Til (Rz 1024 3 D) e) (he : e ≤ 1024) (hp : 0 ≤ p ∧ p ≤ 1018) (hh : Rz 1024 4 D (p + 3) = hd) {j : Int} (j0 : 0 ≤ j) (j1 : j < n) : pV_cellNumbered p j D = vp j := by
  have hl := h.lpos hT he (by omega)
  have hn := h.1
  have hz := (h.2.2.1 (by omega)).1
  unfold pV_cellNumbered pI_unitAt pI_item
  rw [rd_R (i := p + 3) (by omega), hh, h.2.1, if_neg (by omega), rd_R (by omega)]
  exact (h.2.2.1 (by omega)).2.2.2.2 j j0 j1
theorem lengthOf_c (h : VC (Rz 1024 4 D) (Rz 1024 3 D) hd n l z vn sd le vp pc) (hT : Til (Rz 1024 3 D) e) (he : e ≤ 1024) {j : Int} (j0 : 0 ≤ j) (j1 : j < n) : pV_lengthOf (vp j) D = le j := by
  have hv := h.vpos hT he j0 j1
  obtain ⟨a, b, c, d, -⟩ := h.2.2.2.1 j j0 j1
  unfold pV_lengthOf pI_unitAt
  rw [rd_R (by omega), Int.add_zero, d, w32_of (by omega), tmod_pos (by omega)]
  omega
theorem cellNamed_loop (h : VC (Rz 1024 4 D) (Rz 1024 3 D) hd n l z vn sd le vp pc) (hT : Til (Rz 1024 3 D) e) (he : e ≤ 1024) (hp : 0 ≤ p ∧ p ≤ 1018) (hh : Rz 1024 4 D (p + 3) = hd) {x r : Int} (hx : -2147483648 ≤ x ∧ x ≤ 2147483647) (hr : (r = -1 ∧ ∀ j, 0 ≤ j → j < n → vn j ≠ x) ∨ (0 ≤ r ∧ r < n ∧ vn r = x)) :
    ∀ (f : Nat) (j : Int), 0 ≤ j → j ≤ n → (r = -1 ∨ j ≤ r) → (n - j).toNat < f → pV_cellNamed_9 p x n f j D = okR (if r = -1 then 0 else vp r) D := by
  have hn := h.1
  intro f
  induction f with
  | zero => intro j b1 b2 b3 b4; omega
  | succ f ih =>
    intro j b1 b2 b3 b4
    rw [pV_cellNamed_9, w32_of (z := j) (by omega), w32_of (z := n) (by omega)]
    by_cases g : j < n
    · have hv := h.vpos hT he b1 g
      obtain ⟨a, b, c, d, -⟩ := h.2.2.2.1 j b1 g
      rw [if_pos g]
      simp only [ltR]
      rw [cellNumbered_c h hT he hp hh b1 g]
      unfold pI_unitAt
      rw [rd_R (by omega), Int.add_zero, d, w32_of (z := vn j * 31 + le j) (by omega), tdiv_pos (by omega), show (vn j * 31 + le j) / 31 = vn j by omega, w32_of (z := vn j) (by omega), w32_of hx]
      by_cases q : vn j = x
      · rw [if_pos q]
        rcases hr with ⟨q1, q2⟩ | ⟨q1, q2, q3⟩
        · exact absurd q (q2 j b1 g)
        · have : j = r := by
            rcases b3 with b3 | b3
            · omega
            · by_cases z2 : j < r
              · exact absurd (q.trans q3.symm) (h.2.2.2.2 j r b1 z2 q2)
              · omega
          rw [if_neg (by omega), this]
      · rw [if_neg q]
        refine ih (j + 1) (by omega) (by omega) ?_ (by omega)
        rcases hr with ⟨q1, q2⟩ | ⟨q1, q2, q3⟩
        · exact Or.inl q1
        · right
          have : j ≠ r := fun z2 => q (by rw [z2]; exact q3)
          omega
    · rw [if_neg g]
      rcases hr with ⟨q1, q2⟩ | ⟨q1, q2, q3⟩
      · rw [if_pos q1]
      · omega
theorem cellNamed_c (h : VC (Rz 1024 4 D) (Rz 1024 3 D) hd n l z vn sd le vp pc) (hT : Til (Rz 1024 3 D) e) (he : e ≤ 1024) (hp : 0 ≤ p ∧ p ≤ 1018) (hh : Rz 1024 4 D (p + 3) = hd) {x r : Int} (hx : -2147483648 ≤ x ∧ x ≤ 2147483647) (hr : (r = -1 ∧ ∀ j, 0 ≤ j → j < n → vn j ≠ x) ∨ (0 ≤ r ∧ r < n ∧ vn r = x)) : pV_cellNamed p x D = okR (if r = -1 then 0 else vp r) D := by
  have hn := h.1
  unfold pV_cellNamed
  simp only [ltR]
  rw [valueCount_c h hT he hp hh]
  exact cellNamed_loop h hT he hp hh hx hr fu 0 (by omega) hn.1 (by rcases hr with ⟨q, -⟩ | ⟨q, -, -⟩
                                                                    · exact Or.inl q
                                                                    · exact Or.inr q) (fu_gt (by omega))
end VALUES
/-- values in the reference -/
def vN (D : DD) (k : Int) : Int → Int := fun j => Rz 1920 51 D (8 * k + j)
def vS (D : DD) (k : Int) : Int → Int := fun j => Rz 1920 52 D (8 * k + j)
def vL (D : DD) (k : Int) : Int → Int := fun j => Rz 1920 53 D (8 * k + j)
def vP (D : DD) (k : Int) : Int → Int := fun j => Rz 1920 54 D (8 * k + j)
def vQ (D : DD) (k : Int) : Int → Int → Int := fun j i => Rz 7680 55 D (4 * (8 * k + j) + i)
theorem valueOf_loop {D : DD} {k n x r : Int} (hk : 0 ≤ k ∧ k < 80) (hn : Rz 240 48 D k = n) (hn8 : 0 ≤ n ∧ n ≤ 8) (hb : ∀ j, 0 ≤ j → j < n → 0 ≤ vN D k j ∧ vN D k j ≤ 99) (hu : ∀ j j', 0 ≤ j → j < j' → j' < n → vN D k j ≠ vN D k j') (hx : -2147483648 ≤ x ∧ x ≤ 2147483647) (hr : (r = -1 ∧ ∀ j, 0 ≤ j → j < n → vN D k j ≠ x) ∨ (0 ≤ r ∧ r < n ∧ vN D k r = x)) :
    ∀ (f : Nat) (a j : Int), 0 ≤ j → j ≤ n → (n - j).toNat < f → a = (if r = -1 then -1 else if r < j then 8 * k + r else -1) → pM_valueOf_8 k x f a (8 * k + j) D = okR (if r = -1 then -1 else 8 * k + r) D := by
  intro f
  induction f with
  | zero => intro a j b1 b2 b3; omega
  | succ f ih =>
    intro a j b1 b2 b3 ha
    rw [pM_valueOf_8, rdA_R ⟨hk.1, by omega, by decide⟩, hn, w32_of (z := 8 * k + j) (by omega), w32_of (z := 8 * k + n) (by omega)]
    by_cases g : j < n
    · have hbj := hb j b1 g
      rw [if_pos (by omega), rdA_R ⟨by omega, by omega, by decide⟩]
      simp only [jnR]
      rw [show Rz 1920 51 D (8 * k + j) = vN D k j from rfl, w32_of (z := vN D k j) (by omega), w32_of hx, Int.add_assoc]
      by_cases q : vN D k j = x
      · rw [if_pos q]
        have hjr : j = r := by
          rcases hr with ⟨q1, q2⟩ | ⟨q1, q2, q3⟩
          · exact absurd q (q2 j b1 g)
          · by_cases z2 : j < r
            · exact absurd (q.trans q3.symm) (hu j r b1 z2 q2)
            · by_cases z3 : r < j
              · exact absurd (q3.trans q.symm) (hu r j q1 z3 g)
              · omega
        exact ih (8 * k + j) (j + 1) (by omega) (by omega) (by omega) (by rw [if_neg (by omega), if_pos (by omega), hjr])
      · rw [if_neg q]
        refine ih a (j + 1) (by omega) (by omega) (by omega) ?_
        rw [ha]
        rcases hr with ⟨q1, q2⟩ | ⟨q1, q2, q3⟩
        · rw [if_pos q1, if_pos q1]
        · have : j ≠ r := fun z2 => q (by rw [z2]; exact q3)
          rw [if_neg (show ¬ r = -1 by omega), if_neg (show ¬ r = -1 by omega)]
          by_cases z3 : r < j
          · rw [if_pos z3, if_pos (by omega)]
          · rw [if_neg z3, if_neg (by omega)]
    · rw [if_neg (by omega), ha]
      rcases hr with ⟨q1, q2⟩ | ⟨q1, q2, q3⟩
      · rw [if_pos q1, if_pos q1]
      · rw [if_neg (show ¬ r = -1 by omega), if_neg (show ¬ r = -1 by omega), if_pos (by omega)]
theorem valueOf_m {D : DD} {k n x r : Int} (hk : 0 ≤ k ∧ k < 80) (hn : Rz 240 48 D k = n) (hn8 : 0 ≤ n ∧ n ≤ 8) (hb : ∀ j, 0 ≤ j → j < n → 0 ≤ vN D k j ∧ vN D k j ≤ 99) (hu : ∀ j j', 0 ≤ j → j < j' → j' < n → vN D k j ≠ vN D k j') (hx : -2147483648 ≤ x ∧ x ≤ 2147483647) (hr : (r = -1 ∧ ∀ j, 0 ≤ j → j < n → vN D k j ≠ x) ∨ (0 ≤ r ∧ r < n ∧ vN D k r = x)) : pM_valueOf k x D = okR (if r = -1 then -1 else 8 * k + r) D := by
  have e : (-1 : Int) = if r = -1 then -1 else if r < 0 then 8 * k + r else -1 := by
    rcases hr with ⟨q1, -⟩ | ⟨q1, -, -⟩
    · rw [if_pos q1]
    · rw [if_neg (show ¬ r = -1 by omega), if_neg (by omega)]
  unfold pM_valueOf
  simp only [ltR]
  have := valueOf_loop hk hn hn8 hb hu hx hr fu (-1) 0 (by omega) hn8.1 (fu_gt (by omega)) e
  rw [Int.add_zero] at this
  exact this
/-- pieces are given back, side by side -/
theorem pieces_loop {q w : Int → Int} {x fr m : Int} (hx : 0 ≤ x ∧ x < 640) (hfr : 0 ≤ fr) (hm : 0 ≤ m) (hm4 : fr + m ≤ 4) : ∀ (r : Nat) (f g : Nat) (i acc : Int) (Dc Dm : DD), r < f → r < g → 0 ≤ i → i + r = m → CR Dc Dm → (∀ j, i ≤ j → j < m → Rz 1024 3 Dc (q j) = w j ∧ 1 ≤ w j ∧ w j ≤ 1000) → (∀ j, i ≤ j → j < m → Rz 1024 4 Dc (q j) = if j + 1 < m then q (j + 1) else 0) → (∀ j j', i ≤ j → j < j' → j' < m → q j ≠ q j') →
    (0 ≤ Rz 1920 53 Dm x ∧ Rz 1920 53 Dm x ≤ 30) → pcs (Rz 1920 53 Dm x) = fr + m → (∀ j, i ≤ j → j < m → Rz 7680 55 Dm (4 * x + (fr + j)) = q j) →
    ∃ Dc' Dm' V, pV_giveBackPieces_7 f acc (if i < m then q i else 0) i Dc = okR (acc + V) Dc' ∧ pM_givesPieces_2 x g (fr + i) Dm = okR 0 Dm' ∧ CR Dc' Dm' ∧ (∀ b, b ∉ [3, 7] → Dc' b = Dc b) ∧ (∀ j, j ≠ 5 → Dc' 7 j = Dc 7 j) ∧ (∀ b, b ∉ [32, 33, 58] → Dm' b = Dm b) ∧ (∀ j, j ≠ 41 → Dm' 32 j = Dm 32 j) ∧ Dm' 32 41 = Dm 32 41 + V ∧ HiEq Dm Dm' ∧
      (∀ u, (∀ j, i ≤ j → j < m → u ≠ q j) → 0 < Rz 1024 3 Dc u → Rz 1024 3 Dc' u = Rz 1024 3 Dc u) ∧
      (∀ t, 0 ≤ t → t < 64 → (bit (Dc' 7 5) t = true ↔ bit (Dc 7 5) t = true ∨ ∃ j, i ≤ j ∧ j < m ∧ sec (q j) (w j) t)) ∧ Mb Dm Dm' (fun t => ∃ j, i ≤ j ∧ j < m ∧ sec (q j) (w j) t) := by
  intro r
  induction r with
  | zero =>
    intro f g i acc Dc Dm hf hg i0 hi hC _ _ _ hl hpc _
    match f, g, hf, hg with
    | f + 1, g + 1, _, _ =>
      refine ⟨Dc, Dm, 0, ?_, ?_, hC, fun _ _ => rfl, fun _ _ => rfl, fun _ _ => rfl, fun _ _ => rfl, by omega, HiEq.rf _, fun _ _ _ => rfl, fun t _ _ => ?_, fun t _ _ => ?_⟩
      · rw [pV_giveBackPieces_7, w32_of (z := i) (by omega), if_neg (show ¬ i < m by omega), if_pos w32_k0]
        rw [Int.add_zero]
        split <;> rfl
      · rw [pM_givesPieces_2, rdA_R ⟨hx.1, by omega, by decide⟩, piecesFor_m hl, hpc, w32_of (z := fr + i) (by omega), w32_of (z := fr + m) (by omega), if_neg (by omega)]
      · constructor
        · intro h; exact Or.inl h
        · rintro (h | ⟨j, a, b, -⟩)
          · exact h
          · omega
      · constructor
        · intro h; exact Or.inl h
        · rintro (h | ⟨j, a, b, -⟩)
          · exact h
          · omega
  | succ r ih =>
    intro f g i acc Dc Dm hf hg i0 hi hC hs hu hd hl hpc hq
    match f, g, hf, hg with
    | f + 1, g + 1, hf, hg =>
      have him : i < m := by omega
      obtain ⟨s1, s2, s3⟩ := hs i (Int.le_refl _) him
      have hqi := hC.1.in (u := q i) (by omega) (by have := hC.2.1; omega)
      obtain ⟨Dc1, Dm1, g1, g2, g3, g4, g5, g6, g7, g8, g9, g10, g11, g12, g13⟩ := give_both (Dc := Dc) (Dm := Dm) (p := q i) (n := w i) hC s1 s2
      have e4 : ∀ u, Rz 1024 4 Dc1 u = Rz 1024 4 Dc u := fun u => R_cg (g4 4 (by decide)) u
      have e53 : Rz 1920 53 Dm1 x = Rz 1920 53 Dm x := R_cg (g6 53 (by decide)) x
      obtain ⟨Dc', Dm', V, k1, k2, k3, k4, k5, k6, k7, k8, k9, k10, k11, k12⟩ := ih f g (i + 1) (acc + w i) Dc1 Dm1 (by omega) (by omega) (by omega) (by omega) g3
        (fun j a b => by
          have hj := hs j (by omega) b
          rw [g10 (q j) (fun z => hd i j (Int.le_refl _) (by omega) b z.symm) (by omega)]
          exact hj) (fun j a b => by rw [e4]; exact hu j (by omega) b) (fun j j' a b c => hd j j' (by omega) b c) (by rw [e53]; exact hl) (by rw [e53]; exact hpc) (fun j a b => by rw [R_cg (g6 55 (by decide))]; exact hq j (by omega) b)
      have hui := hu i (Int.le_refl _) him
      refine ⟨Dc', Dm', w i + V, ?_, ?_, k3, fun b hb => (k4 b hb).trans (g4 b hb), fun j hj => (k5 j hj).trans (g5 j hj), fun b hb => (k6 b hb).trans (g6 b hb), fun j hj => (k7 j hj).trans (g7 j hj), by rw [k8, g8]; omega, g9.trans k9, fun u h1 h2 => ?_, fun t a b => ?_, fun t a b => ?_⟩
      · rw [pV_giveBackPieces_7, w32_of (z := i) (by omega), if_pos (by omega), if_pos him, w32_of (z := q i) (by omega), if_neg (by omega)]
        simp only [ltR]
        unfold pI_unitAt
        rw [rd_R (by omega), hui, g1, bnd_ok, k1, show acc + w i + V = acc + (w i + V) by omega]
      · rw [pM_givesPieces_2, rdA_R ⟨hx.1, by omega, by decide⟩, piecesFor_m hl, hpc, w32_of (z := fr + i) (by omega), w32_of (z := fr + m) (by omega), if_pos (by omega), rdA_R ⟨by omega, by omega, by decide⟩, hq i (Int.le_refl _) him, g2, bnd_ok, Int.add_assoc]
        exact k2
      · have h3 := g10 u (h1 i (Int.le_refl _) him) h2
        rw [k10 u (fun j a b => h1 j (by omega) b) (by rw [h3]; exact h2), h3]
      · rw [k11 t a b, g11 t a b]
        constructor
        · rintro ((h | h) | ⟨j, c1, c2, c3⟩)
          · exact Or.inl h
          · exact Or.inr ⟨i, Int.le_refl _, him, h⟩
          · exact Or.inr ⟨j, by omega, c2, c3⟩
        · rintro (h | ⟨j, c1, c2, c3⟩)
          · exact Or.inl (Or.inl h)
          · by_cases z : j = i
            · subst z; exact Or.inl (Or.inr c3)
            · exact Or.inr ⟨j, by omega, c2, c3⟩
      · rw [k12 t a b, g12 t a b]
        constructor
        · rintro ((h | h) | ⟨j, c1, c2, c3⟩)
          · exact Or.inl h
          · exact Or.inr ⟨i, Int.le_refl _, him, h⟩
          · exact Or.inr ⟨j, by omega, c2, c3⟩
        · rintro (h | ⟨j, c1, c2, c3⟩)
          · exact Or.inl (Or.inl h)
          · by_cases z : j = i
            · subst z; exact Or.inl (Or.inr c3)
            · exact Or.inr ⟨j, by omega, c2, c3⟩
