/-! usedByTree -/
section WALK
variable {Dc Dm : DD} {m : Int}
def uv (L : Int) : Int := 3 + if 1 < L then L + 2 * pcs L else 0
def ukK (D : DD) (k : Int) : Int := 6 + 5 * Rz 240 42 D k + (if 1 < Rz 240 42 D k then 9 else 0) + (if 0 < Rz 240 48 D k then Rz 240 50 D k else 0) + sm (fun j => uv (vL D k j)) (Rz 240 48 D k)
/-- the units of the first t pieces -/
def puS (L t : Int) : Int := if t = pcs L then (if 1 < L then L + 2 * pcs L else 0) else 10 * t
theorem puS_s {L t : Int} (hL : 0 ≤ L ∧ L ≤ 30) (ht : 0 ≤ t ∧ t < pcs L) : puS L (t + 1) = puS L t + (2 + upc L t) := by
  unfold puS upc
  unfold pcs at ht ⊢
  by_cases q : L < 2
  · rw [if_pos q] at ht; omega
  · rw [if_neg q] at ht ⊢
    rw [if_neg (show ¬ t = (L + 7) / 8 by omega), if_pos (show 1 < L by omega)]
    by_cases q2 : t + 1 = (L + 7) / 8
    · rw [if_pos q2]
      by_cases q3 : 8 < L - 8 * t
      · omega
      · rw [if_neg q3]; omega
    · rw [if_neg q2]
      by_cases q3 : 8 < L - 8 * t
      · rw [if_pos q3]; omega
      · omega
theorem pu_loop {q : Int → Int} {L : Int} {D : DD} (hL : 0 ≤ L ∧ L ≤ 30) (hs : ∀ i, 0 ≤ i → i < pcs L → Rz 1024 3 D (q i) = 2 + upc L i ∧ Rz 1024 4 D (q i) = (if i + 1 < pcs L then q (i + 1) else 0) ∧ 4 ≤ q i ∧ q i ≤ 1024) : ∀ (f : Nat) (t acc : Int), 0 ≤ t → t ≤ pcs L → (pcs L - t).toNat < f → ∀ K, pV_unitsOf_78 f acc (if t < pcs L then q t else 0) t D K = K (acc + (puS L (pcs L) - puS L t)) D := by
  have hp := pcs_bd hL
  intro f
  induction f with
  | zero => intro t acc h1 h2 h3; omega
  | succ f ih =>
    intro t acc h1 h2 h3 K
    by_cases z : t < pcs L
    · obtain ⟨s1, s2, s3⟩ := hs t h1 z
      rw [pV_unitsOf_78, w32_of (z := t) (by omega), if_pos (show t < 4 by omega), if_pos z, w32_of (z := q t) (by omega), if_neg (by omega)]
      simp only [ltR]
      unfold pI_sizeAt pI_unitAt
      rw [rd_R (by omega), rd_R (by omega), s1, s2, ih (t + 1) _ (by omega) (by omega) (by omega) K, puS_s hL ⟨h1, z⟩]
      congr 1
      omega
    · rw [pV_unitsOf_78, w32_of (z := t) (by omega), if_neg (show ¬ t < pcs L from z), w32_k0, if_pos (show (0 : Int) = 0 from rfl), show t = pcs L by omega, Int.sub_self, Int.add_zero]
      split <;> rfl
theorem lu_loop {p n : Int} {D : DD} {lp : Int → Int} (hn : 0 ≤ n ∧ n ≤ 8) (hl : ∀ i, 0 ≤ i → i < n → pL_leafNumbered p i D = lp i ∧ Rz 1024 3 D (lp i) = 5 ∧ 4 ≤ lp i ∧ lp i ≤ 1024) : ∀ (f : Nat) (i acc : Int), 0 ≤ i → i ≤ n → (n - i).toNat < f → pL_unitsOf_39 p n f acc i D = okR (acc + 5 * (n - i)) D := by
  intro f
  induction f with
  | zero => intro i acc h1 h2 h3; omega
  | succ f ih =>
    intro i acc h1 h2 h3
    rw [pL_unitsOf_39, w32_of (z := i) (by omega), w32_of (z := n) (by omega)]
    by_cases z : i < n
    · obtain ⟨s1, s2, s3⟩ := hl i h1 z
      simp only [ltR]
      unfold pI_sizeAt
      rw [if_pos z, s1, rd_R (by omega), s2, ih (i + 1) _ (by omega) (by omega) (by omega)]
      congr 1
      omega
    · rw [if_neg z]
      congr 1
      omega
theorem units_c {k : Int} (h : Tr Dc Dm) (hk : 0 ≤ k ∧ k < 80) (ht : th Dm k) : ∃ a b, pI_sizeAt (Rz 240 40 Dm k) Dc = 6 ∧ pL_unitsOf (Rz 240 40 Dm k) Dc = okR a Dc ∧ pV_unitsOf (Rz 240 40 Dm k) Dc = okR b Dc ∧ 6 + a + b = ukK Dm k := by
  have hkr := St.kr h hk ht
  obtain ⟨p1, p2, p3⟩ := h.place hk ht
  have hL := hkr.2.2.2.2.1
  have hV := hkr.2.2.2.2.2.2
  have hT := h.1.1.1
  have hsc := h.1.1.2.1
  have n8 := hL.1
  have v8 := hV.1
  have lc := leafCount_c hL hT (by omega) (p := Rz 240 40 Dm k) (by omega) rfl
  have vc := valueCount_c hV hT (by omega) (p := Rz 240 40 Dm k) (by omega) rfl
  refine ⟨(if 1 < Rz 240 42 Dm k then 9 else 0) + 5 * Rz 240 42 Dm k, (if 0 < Rz 240 48 Dm k then Rz 240 50 Dm k else 0) + sm (fun j => uv (vL Dm k j)) (Rz 240 48 Dm k), ?_, ?_, ?_, ?_⟩
  · unfold pI_sizeAt
    rw [rd_R (by omega), hkr.2.1]
  · have lu := fun acc => lu_loop (p := Rz 240 40 Dm k) (n := Rz 240 42 Dm k) (D := Dc) (lp := ml Dm k) n8 (fun i a b => by
      have := hL.pos hT (by omega) a b
      exact ⟨leafNumbered_c hL hT (by omega) (by omega) rfl a b, (hL.2.2.1 i a b).1, by omega, by omega⟩) fu 0 acc (Int.le_refl _) n8.1 (fu_gt (by omega))
    unfold pL_unitsOf
    simp only [ltR, jnR]
    rw [lc, w32_of (by omega)]
    by_cases z : 1 < Rz 240 42 Dm k
    · have hix := (hL.2.2.2 (by omega)).1
      have hip := hT.1 (Rz 240 43 Dm k) (by omega)
      have e : pI_sizeAt (pI_unitAt (Rz 240 40 Dm k + 2) Dc) Dc = 9 := by
        unfold pI_sizeAt pI_unitAt
        rw [rd_R (i := Rz 240 40 Dm k + 2) (by omega), hL.2.1, if_neg (by omega), if_neg (by omega), rd_R (by omega), hix]
      rw [if_pos z, if_pos z, e, lu, Int.sub_zero]
    · rw [if_neg z, if_neg z, lu, Int.sub_zero]
  · have vu : ∀ (f : Nat) (j acc : Int), 0 ≤ j → j ≤ Rz 240 48 Dm k → (Rz 240 48 Dm k - j).toNat < f → pV_unitsOf_35 (Rz 240 40 Dm k) (Rz 240 48 Dm k) f acc j Dc = okR (acc + (sm (fun j => uv (vL Dm k j)) (Rz 240 48 Dm k) - sm (fun j => uv (vL Dm k j)) j)) Dc := by
      intro f
      induction f with
      | zero => intro j acc h1 h2 h3; omega
      | succ f ih =>
        intro j acc h1 h2 h3
        rw [pV_unitsOf_35, w32_of (z := j) (by omega), w32_of (z := Rz 240 48 Dm k) (by omega)]
        by_cases z : j < Rz 240 48 Dm k
        · obtain ⟨c1, c2, c3, c4, c5, c6, c7⟩ := hV.2.2.2.1 j h1 z
          have hv := hV.vpos hT (by omega) h1 z
          have hp := pcs_bd c2
          have cn := cellNumbered_c hV hT (by omega) (p := Rz 240 40 Dm k) (by omega) rfl h1 z
          simp only [ltR]
          rw [if_pos z, cn]
          have s3 : pI_sizeAt (vP Dm k j) Dc = 3 := by
            unfold pI_sizeAt
            rw [rd_R (by omega), c3]
          have u2 : pI_unitAt (vP Dm k j + 2) Dc = if 0 < pcs (vL Dm k j) then vQ Dm k j 0 else 0 := by
            unfold pI_unitAt
            rw [rd_R (by omega), c6]
            by_cases y : pcs (vL Dm k j) = 0
            · rw [if_pos y, if_neg (by omega)]
            · rw [if_neg y, if_pos (by omega)]
          rw [s3, u2, pu_loop (q := vQ Dm k j) c2 (fun i a b => by
            have := hV.ppos hT (by omega) h1 z a b
            have := upc_bd c2 ⟨a, b⟩
            exact ⟨(c7 i a b).1, (c7 i a b).2, by omega, by omega⟩) fu 0 (acc + 3) (Int.le_refl _) hp.1 (fu_gt (by omega)), ih (j + 1) _ (by omega) (by omega) (by omega), sm_s h1]
          congr 1
          have e0 : puS (vL Dm k j) 0 = 0 := by
            unfold puS
            by_cases y : 0 = pcs (vL Dm k j)
            · rw [if_pos y]
              unfold pcs at y
              by_cases y2 : vL Dm k j < 2
              · rw [if_neg (by omega)]
              · rw [if_neg y2] at y; omega
            · rw [if_neg y]; rfl
          have e1 : puS (vL Dm k j) (pcs (vL Dm k j)) = uv (vL Dm k j) - 3 := by
            unfold puS uv
            rw [if_pos rfl]
            omega
          rw [e0, e1]
          omega
        · rw [if_neg z, show j = Rz 240 48 Dm k by omega, Int.sub_self, Int.add_zero]
    unfold pV_unitsOf
    simp only [ltR, jnR]
    rw [vc, w32_of (by omega)]
    by_cases z : Rz 240 48 Dm k = 0
    · rw [if_pos z, vu fu 0 0 (Int.le_refl _) v8.1 (fu_gt (by omega)), sm_0, if_neg (by omega), Int.sub_zero]
    · have hl := hV.lpos hT (by omega) (by omega)
      have hls := hV.2.2.1 (by omega)
      have e : pI_sizeAt (pI_unitAt (Rz 240 40 Dm k + 3) Dc) Dc = Rz 240 50 Dm k := by
        unfold pI_sizeAt pI_unitAt
        rw [rd_R (i := Rz 240 40 Dm k + 3) (by omega), hV.2.1, if_neg z, rd_R (by omega), hls.2.1]
      rw [if_neg z, e, vu fu 0 _ (Int.le_refl _) v8.1 (fu_gt (by omega)), sm_0, if_pos (by omega), Int.sub_zero]
  · unfold ukK
    omega
/-- the reference's sums -/
theorem ur_loop {D : DD} : ∀ (f : Nat) (a acc : Int), 0 ≤ a → a ≤ 256 → (256 - a).toNat < f → (∀ r, 0 ≤ r → r < 256 → 0 ≤ Rz 768 57 D r ∧ Rz 768 57 D r ≤ 80) → ∀ K, pM_usedByTree_9 f acc a D K = K (acc + (sm (fun r => if 0 < Rz 768 57 D r then 2 else 0) 256 - sm (fun r => if 0 < Rz 768 57 D r then 2 else 0) a)) D := by
  intro f
  induction f with
  | zero => intro a acc h1 h2 h3; omega
  | succ f ih =>
    intro a acc h1 h2 h3 hb K
    rw [pM_usedByTree_9, w32_of (z := a) (by omega)]
    by_cases z : a < 256
    · have b := hb a h1 z
      rw [if_pos z, rdA_R (by omega), w32_of (z := Rz 768 57 D a) (by omega)]
      simp only [ltR, jnR]
      have s := sm_s (f := fun r => if 0 < Rz 768 57 D r then (2 : Int) else 0) h1
      by_cases y : 0 < Rz 768 57 D a
      · rw [if_pos y, ih (a + 1) _ (by omega) (by omega) (by omega) hb, s]
        rw [if_pos y]
        congr 1
        omega
      · rw [if_neg y, ih (a + 1) _ (by omega) (by omega) (by omega) hb, s]
        rw [if_neg y]
        congr 1
        omega
    · rw [if_neg z, show a = 256 by omega, Int.sub_self, Int.add_zero]
theorem uw_loop {D : DD} {k n : Int} (hk : 0 ≤ k ∧ k < 80) (hn : Rz 240 48 D k = n) (hn8 : 0 ≤ n ∧ n ≤ 8) (hL : ∀ j, 0 ≤ j → j < n → 0 ≤ vL D k j ∧ vL D k j ≤ 30) : ∀ (f : Nat) (j acc : Int), 0 ≤ j → j ≤ n → (n - j).toNat < f → ∀ K, pM_usedByTree_112 k f acc (8 * k + j) D K = K (acc + (sm (fun j => uv (vL D k j)) n - sm (fun j => uv (vL D k j)) j)) D := by
  intro f
  induction f with
  | zero => intro j acc h1 h2 h3; omega
  | succ f ih =>
    intro j acc h1 h2 h3 K
    rw [pM_usedByTree_112, rdA_R (by omega), hn, w32_of (z := 8 * k + j) (by omega), w32_of (z := 8 * k + n) (by omega)]
    by_cases z : j < n
    · have b := hL j h1 z
      have e53 : Rz 1920 53 D (8 * k + j) = vL D k j := rfl
      rw [if_pos (show 8 * k + j < 8 * k + n by omega), rdA_R (by omega), e53, w32_of (z := vL D k j) (by omega)]
      simp only [ltR, jnR]
      have s := sm_s (f := fun j => uv (vL D k j)) h1
      by_cases y : 1 < vL D k j
      · rw [if_pos y, rdA_R (by omega), rdA_R (by omega), e53, piecesFor_m b, Int.add_assoc, ih (j + 1) _ (by omega) (by omega) (by omega), s]
        unfold uv
        rw [if_pos y]
        congr 1
        omega
      · rw [if_neg y, Int.add_assoc, ih (j + 1) _ (by omega) (by omega) (by omega), s]
        unfold uv
        rw [if_neg y]
        congr 1
        omega
    · rw [if_neg (show ¬ 8 * k + j < 8 * k + n by omega), show j = n by omega, Int.sub_self, Int.add_zero]
theorem uk_loop {D : DD} (h0 : ∀ k, 0 ≤ k → k < 80 → Rz 240 36 D k = 0 ∨ Rz 240 36 D k = 1) (hb : ∀ k, 0 ≤ k → k < 80 → Rz 240 36 D k = 1 → (0 ≤ Rz 240 42 D k ∧ Rz 240 42 D k ≤ 8) ∧ (0 ≤ Rz 240 48 D k ∧ Rz 240 48 D k ≤ 8) ∧ ∀ j, 0 ≤ j → j < Rz 240 48 D k → 0 ≤ vL D k j ∧ vL D k j ≤ 30) : ∀ (f : Nat) (a acc : Int), 0 ≤ a → a ≤ 80 → (80 - a).toNat < f → pM_usedByTree_41 f acc a D = okR (acc + (sm (fun k => if Rz 240 36 D k = 1 then ukK D k else 0) 80 - sm (fun k => if Rz 240 36 D k = 1 then ukK D k else 0) a)) D := by
  intro f
  induction f with
  | zero => intro a acc h1 h2 h3; omega
  | succ f ih =>
    intro a acc h1 h2 h3
    rw [pM_usedByTree_41, w32_of (z := a) (by omega)]
    by_cases z : a < 80
    · rw [if_pos z, rdA_R (by omega)]
      simp only [jnR]
      have s := sm_s (f := fun k => if Rz 240 36 D k = 1 then ukK D k else 0) h1
      rcases h0 a h1 z with y | y
      · rw [y, w32_k0, if_pos rfl, ih (a + 1) _ (by omega) (by omega) (by omega), s]
        rw [y, if_neg (by decide), Int.add_zero]
      · obtain ⟨b1, b2, b3⟩ := hb a h1 z y
        have lp := uw_loop ⟨h1, z⟩ rfl b2 b3 fu 0
        rw [Int.add_zero, sm_0] at lp
        rw [y, w32_k1, if_neg (by decide), rdA_R (by omega), rdA_R (by omega), w32_of (z := Rz 240 42 D a) (by omega)]
        have fin : ∀ x2, (rdA 240 48 a D fun v4 => (fun J3 => if 0 < (w32 v4) then (rdA 240 50 a D fun v5 => J3 v5 D) else J3 0 D) fun (x3 : Int) (D3 : DD) => ltR (acc + (((6 + (5 * Rz 240 42 D a)) + x2) + x3)) fun x4 => ltR (8 * a) fun x5 => pM_usedByTree_112 a fu x4 x5 D3 fun x6 D4 => pM_usedByTree_41 f x6 (a + 1) D4) = okR (acc + (6 + 5 * Rz 240 42 D a + x2 + (if 0 < Rz 240 48 D a then Rz 240 50 D a else 0) + sm (fun j => uv (vL D a j)) (Rz 240 48 D a)) + (sm (fun k => if Rz 240 36 D k = 1 then ukK D k else 0) 80 - sm (fun k => if Rz 240 36 D k = 1 then ukK D k else 0) (a + 1))) D := fun x2 => by
          simp only [ltR]
          rw [rdA_R (by omega), w32_of (by omega)]
          by_cases w : 0 < Rz 240 48 D a
          · rw [if_pos w, if_pos w, rdA_R (by omega), lp _ (Int.le_refl _) b2.1 (fu_gt (by omega)), ih (a + 1) _ (by omega) (by omega) (by omega)]
            congr 1
            omega
          · rw [if_neg w, if_neg w, lp _ (Int.le_refl _) b2.1 (fu_gt (by omega)), ih (a + 1) _ (by omega) (by omega) (by omega)]
            congr 1
            omega
        by_cases w : 1 < Rz 240 42 D a
        · rw [if_pos w]
          refine (fin 9).trans ?_
          rw [s]
          rw [if_pos y]
          unfold ukK
          rw [if_pos w]
          congr 1
          omega
        · rw [if_neg w]
          refine (fin 0).trans ?_
          rw [s]
          rw [if_pos y]
          unfold ukK
          rw [if_neg w]
          congr 1
          omega
    · rw [if_neg z, show a = 80 by omega, Int.sub_self, Int.add_zero]
end WALK
