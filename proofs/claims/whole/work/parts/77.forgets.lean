/-! a watch is forgotten, or starts anew -/
section FORGETS
theorem forgets_loop {x q i0 : Int} {ka nu : Int → Int} (hq : 0 ≤ q ∧ q ≤ 80) (hi : 0 ≤ i0 ∧ i0 ≤ q) (hx : 0 ≤ x ∧ x < 80) (hka : ∀ i, 0 ≤ i → i < q → (0 ≤ ka i ∧ ka i < 80) ∧ (ka i = x ↔ i = i0)) : ∀ (f : Nat) (n a : Int) (D : DD), 0 ≤ a → a ≤ q → (q - a).toNat < f → D 32 29 = q → n = (if i0 < a then a - 1 else a) →
    (∀ i, 0 ≤ i → i < n → Rz 80 62 D i = delF ka i0 i ∧ Rz 80 63 D i = delF nu i0 i) → (∀ i, a ≤ i → i < q → Rz 80 62 D i = ka i ∧ Rz 80 63 D i = nu i) →
    ∃ D', (∀ K, pM_forgets_25 x f n a D K = K (if i0 < q then q - 1 else q) D') ∧ (∀ b, b ∉ [62, 63] → D' b = D b) ∧ ∀ i, 0 ≤ i → i < (if i0 < q then q - 1 else q) → Rz 80 62 D' i = delF ka i0 i ∧ Rz 80 63 D' i = delF nu i0 i := by
  intro f
  induction f with
  | zero => intro n a D h1 h2 h3; omega
  | succ f ih =>
    intro n a D h1 h2 h3 h4 h5 h6 h7
    by_cases g : a < q
    · obtain ⟨b1, b2⟩ := hka a h1 g
      obtain ⟨c1, c2⟩ := h7 a (Int.le_refl _) g
      have hn : 0 ≤ n ∧ n ≤ a := by
        rw [h5]
        split <;> omega
      have rd62 : Rz 80 62 (Tz 80 63 (Tz 80 62 D n (ka a)) n (nu a)) a = ka a := by
        rw [R_T_ot (by decide), R_T]
        split
        · rfl
        · exact c1
      have base : ∀ i, Rz 80 62 (Tz 80 63 (Tz 80 62 D n (ka a)) n (nu a)) i = (if i = n then ka a else Rz 80 62 D i) ∧ Rz 80 63 (Tz 80 63 (Tz 80 62 D n (ka a)) n (nu a)) i = (if i = n then nu a else Rz 80 63 D i) := fun i => by
        rw [R_T_ot (by decide), R_T, R_T, R_T_ot (by decide)]
        by_cases z : i = n
        · rw [if_pos ⟨by omega, z⟩, if_pos z, if_pos ⟨by omega, z⟩, if_pos z]
          exact ⟨rfl, rfl⟩
        · rw [if_neg (fun y => z y.2), if_neg z, if_neg (fun y => z y.2), if_neg z]
          exact ⟨rfl, rfl⟩
      obtain ⟨D', k1, k2, k3⟩ := ih (if i0 < a + 1 then a + 1 - 1 else a + 1) (a + 1) (Tz 80 63 (Tz 80 62 D n (ka a)) n (nu a)) (by omega) (by omega) (by omega) (by rw [T_ot (by decide), T_ot (by decide)]; exact h4) rfl (fun i y z => by
        obtain ⟨e1, e2⟩ := base i
        rw [e1, e2]
        by_cases w : i = n
        · rw [if_pos w, if_pos w]
          unfold delF
          by_cases w1 : i0 < a
          · rw [if_pos w1] at h5
            rw [if_neg (show ¬ i < i0 by omega), if_neg (show ¬ i < i0 by omega), show i + 1 = a by omega]
            exact ⟨rfl, rfl⟩
          · rw [if_neg w1] at h5
            by_cases w2 : i0 = a
            · rw [if_pos (by omega)] at z
              omega
            · rw [if_pos (show i < i0 by omega), if_pos (show i < i0 by omega), show i = a by omega]
              exact ⟨rfl, rfl⟩
        · rw [if_neg w, if_neg w]
          refine h6 i y ?_
          by_cases w1 : i0 < a
          · rw [if_pos w1] at h5
            rw [if_pos (by omega)] at z
            omega
          · rw [if_neg w1] at h5
            by_cases w2 : i0 < a + 1
            · rw [if_pos w2] at z; omega
            · rw [if_neg w2] at z; omega) (fun i y z => by
        obtain ⟨e1, e2⟩ := base i
        rw [e1, e2, if_neg (by omega), if_neg (by omega)]
        exact h7 i (by omega) z)
      refine ⟨D', fun K => ?_, fun b hb => by rw [k2 b hb, T_ot (nin hb (by decide)), T_ot (nin hb (by decide))], k3⟩
      rw [pM_forgets_25, h4, w32_of (z := a) (by omega), w32_of (z := q) (by omega), if_pos g, rdA_R (by omega), c1, wrA_T (by omega), rdA_R (by omega), R_T_ot (by decide), c2, wrA_T (by omega), rdA_R (by omega), rd62]
      simp only [jnR, ltR]
      rw [w32_of (z := ka a) (by omega), w32_of (z := x) (by omega)]
      by_cases w : ka a = x
      · have := b2.1 w
        rw [if_pos w]
        have e : n + 0 = if i0 < a + 1 then a + 1 - 1 else a + 1 := by
          rw [h5, if_neg (by omega), if_pos (by omega)]; omega
        rw [e]
        exact k1 K
      · have : a ≠ i0 := fun z => w (b2.2 z)
        rw [if_neg w]
        have e : n + 1 = if i0 < a + 1 then a + 1 - 1 else a + 1 := by
          rw [h5]
          by_cases z : i0 < a
          · rw [if_pos z, if_pos (by omega)]; omega
          · rw [if_neg z, if_neg (by omega)]
        rw [e]
        exact k1 K
    · have e : a = q := by omega
      subst e
      refine ⟨D, fun K => ?_, fun _ _ => rfl, fun i y z => h6 i y (by rw [h5]; exact z)⟩
      rw [pM_forgets_25, h4, if_neg (by omega), h5]
/-- a watch starts anew (or is at its end): class and reference -/
theorem start_both {Dc Dm : DD} {m k : Int} (h : Wt Dc Dm m) (hk : 0 ≤ k ∧ k < 80) : ∃ Dm', pM_forgets k Dm = okR 0 Dm' ∧ (∀ b, b ∉ [32, 59, 60, 61, 62, 63] → Dm' b = Dm b) ∧ (∀ j, j ≠ 29 → Dm' 32 j = Dm 32 j) ∧ Rz 80 59 Dm' k = 0 ∧ Rz 80 60 Dm' k = 0 ∧
    ∀ v d Dm'', (0 ≤ v ∧ v ≤ 7) → (d = 0 ∨ d = 1) → (∀ b, b ∉ [59, 60] → Dm'' b = Dm' b) → (∀ i, 0 ≤ i → i < 80 → Rz 80 59 Dm'' i = if i = k then v else Rz 80 59 Dm' i) → (∀ i, 0 ≤ i → i < 80 → Rz 80 60 Dm'' i = if i = k then d else Rz 80 60 Dm' i) →
      Wt (pW_start k v d Dc) Dm'' m ∧ (∀ b, b ∉ [16, 17, 18, 19] → pW_start k v d Dc b = Dc b) := by
  obtain ⟨h1, h2, h3, h4, h5, h6⟩ := id h
  have hq80 := sm_bd (f := tmF Dc) (b := 1) (by decide) 80 80 rfl (fun j _ _ => by unfold tmF; split <;> omega)
  -- where the key lies in the row
  obtain ⟨i0, hi0, hi1⟩ : ∃ i0, (0 ≤ i0 ∧ i0 ≤ Dm 32 29) ∧ ∀ i, 0 ≤ i → i < Dm 32 29 → (Rz 80 62 Dm i = k ↔ i = i0) := by
    by_cases g : ∃ i, 0 ≤ i ∧ i < Dm 32 29 ∧ Rz 80 62 Dm i = k
    · obtain ⟨i, a, b, c⟩ := g
      refine ⟨i, by omega, fun j x y => ⟨fun z => ?_, fun z => by rw [z]; exact c⟩⟩
      by_cases w : i < j
      · have := h5 i j a w y
        rw [c, z] at this; omega
      · by_cases w2 : j < i
        · have := h5 j i x w2 b
          rw [c, z] at this; omega
        · omega
    · exact ⟨Dm 32 29, by omega, fun i a b => ⟨fun z => absurd ⟨i, a, b, z⟩ g, fun z => by omega⟩⟩
  have e32 : (Tz 80 61 (Tz 80 60 (Tz 80 59 Dm k 0) k 0) k 0) 32 = Dm 32 := by rw [T_ot (by decide), T_ot (by decide), T_ot (by decide)]
  obtain ⟨D1, k1, k2, k3⟩ := forgets_loop (x := k) (ka := Rz 80 62 Dm) (nu := Rz 80 63 Dm) (q := Dm 32 29) (i0 := i0) (by omega) hi0 hk (fun i a b => ⟨(h4 i a b).1, hi1 i a b⟩) fu 0 0 (Tz 80 61 (Tz 80 60 (Tz 80 59 Dm k 0) k 0) k 0) (by omega) (by omega) (fu_gt (by omega)) (by rw [e32]) (by rw [if_neg (by omega)]) (fun i a b => by omega) (fun i a b => by
    rw [R_T_ot (by decide), R_T_ot (by decide), R_T_ot (by decide), R_T_ot (by decide), R_T_ot (by decide), R_T_ot (by decide)]
    exact ⟨rfl, rfl⟩)
  have tk : (i0 < Dm 32 29 ∧ Rz 80 19 Dc k ≠ 0) ∨ (i0 = Dm 32 29 ∧ Rz 80 19 Dc k = 0) := by
    by_cases g : i0 < Dm 32 29
    · have e := (hi1 i0 hi0.1 g).2 rfl
      have := (h4 i0 hi0.1 g).2.2
      rw [e] at this
      exact Or.inl ⟨g, by omega⟩
    · refine Or.inr ⟨by omega, Classical.byContradiction fun z => ?_⟩
      obtain ⟨i, a, b, c⟩ := h6 k hk.1 hk.2 z
      have := (hi1 i a b).1 c
      omega
  obtain ⟨q', hq'⟩ : ∃ q', q' = if i0 < Dm 32 29 then Dm 32 29 - 1 else Dm 32 29 := ⟨_, rfl⟩
  rw [← hq'] at k1 k3
  have q1 : 0 ≤ q' ∧ (i0 < Dm 32 29 → q' = Dm 32 29 - 1) ∧ (i0 = Dm 32 29 → q' = Dm 32 29) := by
    by_cases g : i0 < Dm 32 29
    · rw [if_pos g] at hq'; omega
    · rw [if_neg g] at hq'; omega
  -- an entry that stays was an entry before, of another key
  have old : ∀ i, 0 ≤ i → i < q' → ∃ j, 0 ≤ j ∧ j < Dm 32 29 ∧ j ≠ i0 ∧ ((i < i0 ∧ j = i) ∨ (i0 ≤ i ∧ j = i + 1)) ∧ delF (Rz 80 62 Dm) i0 i = Rz 80 62 Dm j ∧ delF (Rz 80 63 Dm) i0 i = Rz 80 63 Dm j := fun i a b => by
    unfold delF
    by_cases g : i < i0
    · rw [if_pos g, if_pos g]
      exact ⟨i, a, by omega, by omega, Or.inl ⟨g, rfl⟩, rfl, rfl⟩
    · rw [if_neg g, if_neg g]
      exact ⟨i + 1, by omega, by omega, by omega, Or.inr ⟨by omega, rfl⟩, rfl, rfl⟩
  have fr : ∀ b, b ∉ [32, 59, 60, 61, 62, 63] → up2 D1 32 29 q' b = Dm b := fun b hb => by
    rw [up2_ot (nin hb (by decide)), k2 b (nsub hb (by decide)), T_ot (nin hb (by decide)), T_ot (nin hb (by decide)), T_ot (nin hb (by decide))]
  have f59 : ∀ i, Rz 80 59 (up2 D1 32 29 q') i = if i = k then 0 else Rz 80 59 Dm i := fun i => by
    rw [R_up2_ot (by decide), R_cg (k2 59 (by decide)), R_T_ot (by decide), R_T_ot (by decide), R_T]
    by_cases z : i = k
    · rw [if_pos ⟨by omega, z⟩, if_pos z]
    · rw [if_neg (fun y => z y.2), if_neg z]
  have f60 : ∀ i, Rz 80 60 (up2 D1 32 29 q') i = if i = k then 0 else Rz 80 60 Dm i := fun i => by
    rw [R_up2_ot (by decide), R_cg (k2 60 (by decide)), R_T_ot (by decide), R_T, R_T_ot (by decide)]
    by_cases z : i = k
    · rw [if_pos ⟨by omega, z⟩, if_pos z]
    · rw [if_neg (fun y => z y.2), if_neg z]
  have f61 : ∀ i, Rz 80 61 (up2 D1 32 29 q') i = if i = k then 0 else Rz 80 61 Dm i := fun i => by
    rw [R_up2_ot (by decide), R_cg (k2 61 (by decide)), R_T, R_T_ot (by decide), R_T_ot (by decide)]
    by_cases z : i = k
    · rw [if_pos ⟨by omega, z⟩, if_pos z]
    · rw [if_neg (fun y => z y.2), if_neg z]
  refine ⟨up2 D1 32 29 q', ?_, fr, fun j hj => ?_, by rw [f59, if_pos rfl], by rw [f60, if_pos rfl], fun v d Dm'' hv hd w1 w2 w3 => ?_⟩
  · unfold pM_forgets
    rw [wrA_T (by omega), wrZ_T (by omega) (Or.inl rfl), wrZ_T (by omega) (Or.inl rfl), k1]
    rfl
  · rw [up2_nk hj, k2 32 (by decide), e32]
  · have hE : pW_start k v d Dc = Tz 80 19 (Tz 80 18 (Tz 80 17 (Tz 80 16 Dc k v) k d) k 0) k 0 := by
      unfold pW_start
      simp only [jnR, gD]
      rw [sto_T (a := 16) (by omega)]
      rcases hd with z | z
      · subst z
        rw [w32_k0, if_pos rfl, sto_T (a := 17) (by omega), sto_T (a := 18) (by omega), sto_T (a := 19) (by omega)]
      · subst z
        rw [w32_k1, if_neg (by decide), sto_T (a := 17) (by omega), sto_T (a := 18) (by omega), sto_T (a := 19) (by omega)]
    rw [hE]
    have r16 : ∀ i, Rz 80 16 (Tz 80 19 (Tz 80 18 (Tz 80 17 (Tz 80 16 Dc k v) k d) k 0) k 0) i = if i = k then v else Rz 80 16 Dc i := fun i => by
      rw [R_T_ot (by decide), R_T_ot (by decide), R_T_ot (by decide), R_T]
      by_cases z : i = k
      · rw [if_pos ⟨by omega, z⟩, if_pos z]
      · rw [if_neg (fun y => z y.2), if_neg z]
    have r17 : ∀ i, Rz 80 17 (Tz 80 19 (Tz 80 18 (Tz 80 17 (Tz 80 16 Dc k v) k d) k 0) k 0) i = if i = k then d else Rz 80 17 Dc i := fun i => by
      rw [R_T_ot (by decide), R_T_ot (by decide), R_T, R_T_ot (by decide)]
      by_cases z : i = k
      · rw [if_pos ⟨by omega, z⟩, if_pos z]
      · rw [if_neg (fun y => z y.2), if_neg z]
    have r18 : ∀ i, Rz 80 18 (Tz 80 19 (Tz 80 18 (Tz 80 17 (Tz 80 16 Dc k v) k d) k 0) k 0) i = if i = k then 0 else Rz 80 18 Dc i := fun i => by
      rw [R_T_ot (by decide), R_T, R_T_ot (by decide), R_T_ot (by decide)]
      by_cases z : i = k
      · rw [if_pos ⟨by omega, z⟩, if_pos z]
      · rw [if_neg (fun y => z y.2), if_neg z]
    have r19 : ∀ i, Rz 80 19 (Tz 80 19 (Tz 80 18 (Tz 80 17 (Tz 80 16 Dc k v) k d) k 0) k 0) i = if i = k then 0 else Rz 80 19 Dc i := fun i => by
      rw [R_T, R_T_ot (by decide), R_T_ot (by decide), R_T_ot (by decide)]
      by_cases z : i = k
      · rw [if_pos ⟨by omega, z⟩, if_pos z]
      · rw [if_neg (fun y => z y.2), if_neg z]
    have r15 : (Tz 80 19 (Tz 80 18 (Tz 80 17 (Tz 80 16 Dc k v) k d) k 0) k 0) 15 = Dc 15 := by rw [T_ot (by decide), T_ot (by decide), T_ot (by decide), T_ot (by decide)]
    have g32 : Dm'' 32 29 = q' := by rw [w1 32 (by decide), up2_eq]
    have g62 : ∀ i, 0 ≤ i → i < q' → Rz 80 62 Dm'' i = delF (Rz 80 62 Dm) i0 i ∧ Rz 80 63 Dm'' i = delF (Rz 80 63 Dm) i0 i := fun i a b => by
      rw [R_cg (w1 62 (by decide)), R_cg (w1 63 (by decide)), R_up2_ot (by decide), R_up2_ot (by decide)]
      exact k3 i a b
    refine ⟨⟨fun i a b => ?_, ?_, ?_, fun i a b => ?_, fun i j a b c => ?_, fun i a b c => ?_⟩, fun b hb => by rw [T_ot (nin hb (by decide)), T_ot (nin hb (by decide)), T_ot (nin hb (by decide)), T_ot (nin hb (by decide))]⟩
    · obtain ⟨x1, x2, x3, x4⟩ := h1 i a b
      rw [w2 i a b, w3 i a b, R_cg (w1 61 (by decide)), f59, f60, f61, r16, r17, r18, r19, r15]
      by_cases z : i = k
      · rw [if_pos z, if_pos z, if_pos z, if_pos z, if_pos z, if_pos z, if_pos z]
        exact ⟨⟨rfl, hv⟩, ⟨rfl, hd⟩, Or.inl ⟨rfl, rfl, rfl⟩, by omega⟩
      · rw [if_neg z, if_neg z, if_neg z, if_neg z, if_neg z, if_neg z, if_neg z, if_neg z, if_neg z]
        exact ⟨x1, x2, x3, x4⟩
    · rw [r15]; exact h2
    · rw [g32]
      refine ⟨q1.1, ?_⟩
      have e : tmF (Tz 80 19 (Tz 80 18 (Tz 80 17 (Tz 80 16 Dc k v) k d) k 0) k 0) = uI (tmF Dc) k 0 := by
        funext i
        unfold tmF uI
        rw [r19]
        by_cases z : i = k
        · rw [if_pos z, if_pos rfl, if_pos z]
        · rw [if_neg z, if_neg z]
      rw [e, sm_upd hk.1 80 80 rfl, if_neg (show ¬ (80 : Int) ≤ k by omega), ← h3.2]
      unfold tmF
      rcases tk with ⟨z1, z2⟩ | ⟨z1, z2⟩
      · rw [if_neg z2]; omega
      · rw [if_pos z2]; omega
    · rw [g32] at b
      obtain ⟨e1, e2⟩ := g62 i a b
      obtain ⟨j, j1, j2, j3, -, j4, j5⟩ := old i a b
      have hne : Rz 80 62 Dm j ≠ k := fun z => j3 ((hi1 j j1 j2).1 z)
      rw [e1, e2, j4, j5, r18, r19, if_neg hne, if_neg hne]
      exact h4 j j1 j2
    · rw [g32] at c
      obtain ⟨j1, x1, x2, x3, x4, x5, -⟩ := old i a (by omega)
      obtain ⟨j2, y1, y2, y3, y4, y5, -⟩ := old j (by omega) c
      have n1 : Rz 80 62 Dm j1 ≠ k := fun z => x3 ((hi1 j1 x1 x2).1 z)
      have n2 : Rz 80 62 Dm j2 ≠ k := fun z => y3 ((hi1 j2 y1 y2).1 z)
      rw [(g62 i a (by omega)).1, (g62 j (by omega) c).1, x5, y5, r19, r19, if_neg n1, if_neg n2]
      exact h5 j1 j2 x1 (by omega) y2
    · rw [r19] at c
      by_cases z : i = k
      · rw [if_pos z] at c; exact absurd rfl c
      · rw [if_neg z] at c
        obtain ⟨j, y1, y2, y3⟩ := h6 i a b c
        have hj : j ≠ i0 := fun w => z (by rw [← y3]; exact (hi1 j y1 y2).2 w)
        rw [g32]
        by_cases w : j < i0
        · refine ⟨j, y1, by omega, ?_⟩
          rw [(g62 j y1 (by omega)).1]
          unfold delF
          rw [if_pos w, y3]
        · refine ⟨j - 1, by omega, by omega, ?_⟩
          rw [(g62 (j - 1) (by omega) (by omega)).1]
          unfold delF
          rw [if_neg (by omega), show j - 1 + 1 = j by omega, y3]
end FORGETS
