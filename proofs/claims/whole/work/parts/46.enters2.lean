/-! an entry comes into a list of the reference: the whole -/
theorem entEnd_m {k : Int} (hk : 0 ≤ k ∧ k < 80) {D : DD} {p : Int} (hp : Rz 240 40 D k = p) (hs : Rz 3072 33 D p = 6) (h0 : 0 ≤ p ∧ p + 6 ≤ 1024) : ∃ D', entEnd k D = okR 0 D' ∧ Mm D D' (sec p 6) := by
  unfold entEnd
  obtain ⟨D', e1, e2⟩ := mark_model (D := D) hs (by omega) h0.1 h0.2
  rw [rdA_R ⟨hk.1, by omega, by decide⟩, hp, e1, bnd_ok]
  exact ⟨D', rfl, e2⟩
theorem entTail_m {k : Int} (hk : 0 ≤ k ∧ k < 80) {D : DD} {n L t child x fr q N : Int} (hn : Rz 240 42 D k = n) (hn8 : 1 ≤ n ∧ n ≤ 8) (hL : 0 ≤ L ∧ L < n) (hc : ∀ i, 0 ≤ i → i < n → 0 ≤ mc D k i ∧ mc D k i ≤ 4) (hN : sm (mc D k) n = N) (hN31 : N ≤ 31) (hx : 0 ≤ x ∧ x ≤ 9999) (ht : sm (mc D k) L ≤ t ∧ t ≤ sm (mc D k) L + mc D k L)
    (hnm : ∀ j, sm (mc D k) L ≤ j → j < sm (mc D k) L + mc D k L → 0 ≤ mn_ D k j ∧ mn_ D k j ≤ 9999) (h1 : ∀ j, sm (mc D k) L ≤ j → j < t → rk (mn_ D k j) < rk x) (h2 : t < sm (mc D k) L + mc D k L → ¬ rk (mn_ D k t) < rk x)
    (hq : ml D k L = q) (hs : Rz 3072 33 D q = 5) (h0 : 0 ≤ q ∧ q + 5 ≤ 1024) :
    ∃ D', (∀ v2, entTail k child x fr L v2 D = if w32 v2 = 0 then entEnd k D' else entSplit k L fr D') ∧ Lk D D' k ∧ Mb D D' (sec q 5) ∧ D' 42 = D 42 ∧ D' 43 = D 43 ∧ D' 44 = D 44 ∧ (∀ i, 0 ≤ i → i < 8 → mc D' k i = uI (mc D k) L (mc D k L + 1) i) ∧ (∀ j, 0 ≤ j → j ≤ N → me D' k j = insF (me D k) t child j ∧ mn_ D' k j = insF (mn_ D k) t x j) := by
  have hcL := hc L hL.1 hL.2
  have hst := sm_step (f := mc D k) (i := L) (j := n) hL.1 hL.2 (fun i a b => (hc i (by omega) b).1)
  have hbd := sm_bd (f := mc D k) (b := 4) (by decide) L.toNat L (by omega) (fun i a b => hc i a (by omega))
  obtain ⟨D1, e1, e2, e3, e4, e5⟩ := e130_loop hk (t := t) (N := N) (by omega) (by omega) fu N D (by omega) (Int.le_refl _) (fu_gt (by omega))
  have m45 : ∀ i, mc (Tz 7680 47 (Tz 7680 46 D1 (32 * k + t) child) (32 * k + t) x) k i = mc D k i := fun i => by
    unfold mc
    rw [R_T_ot (by decide), R_T_ot (by decide), R_cg (e3 45 (by decide) (by decide))]
  have r44 : ∀ v i, Rz 1920 44 (Tz 1920 45 (Tz 7680 47 (Tz 7680 46 D1 (32 * k + t) child) (32 * k + t) x) (8 * k + L) v) i = Rz 1920 44 D i := fun v i => by
    rw [R_T_ot (by decide), R_T_ot (by decide), R_T_ot (by decide), R_cg (e3 44 (by decide) (by decide))]
  have r33 : ∀ v i, Rz 3072 33 (Tz 1920 45 (Tz 7680 47 (Tz 7680 46 D1 (32 * k + t) child) (32 * k + t) x) (8 * k + L) v) i = Rz 3072 33 D i := fun v i => by
    rw [R_T_ot (by decide), R_T_ot (by decide), R_T_ot (by decide), R_cg (e3 33 (by decide) (by decide))]
  obtain ⟨D2, m1, m2⟩ := mark_model (D := Tz 1920 45 (Tz 7680 47 (Tz 7680 46 D1 (32 * k + t) child) (32 * k + t) x) (8 * k + L) (mc D k L + 1)) (p := q) (n := 5) (by rw [r33]; exact hs) (by omega) h0.1 h0.2
  have lk : Lk D D2 k := e2.trans ((Lk.T7680 (Or.inl rfl) hk (by omega)).trans ((Lk.T7680 (Or.inr rfl) hk (by omega)).trans ((Lk.T1920 (Or.inr rfl) hk (by omega)).trans (Lk.of58 m2))))
  have ot : ∀ b, b ∉ [45, 46, 47, 58] → D2 b = D b := fun b hb => by
    rw [m2.1 b (nin hb (by decide)), T_ot (nin hb (by decide)), T_ot (nin hb (by decide)), T_ot (nin hb (by decide)), e3 b (nin hb (by decide)) (nin hb (by decide))]
  refine ⟨D2, fun v2 => ?_, lk, fun t' a b => ?_, ot 42 (by decide), ot 43 (by decide), ot 44 (by decide), fun i a b => ?_, fun j a b => ?_⟩
  · unfold entTail
    have hnD : Rz 240 42 D k = n := hn
    rw [start_m hk ⟨hL.1, by omega⟩, bnd_ok, rdA_R ⟨by omega, by omega, by decide⟩]
    simp only [ltR]
    rw [show Rz 1920 45 D (8 * k + L) = mc D k L from rfl, e88_loop hk hx ⟨by omega, ht.2, by omega⟩ ⟨hbd.1, ht.1⟩ hnm h1 h2 fu (sm (mc D k) L) (Int.le_refl _) ht.1 (fu_gt (by omega)), entries_m hk (by omega), bnd_ok, hn, hN, e1]
    rw [wrA_T ⟨by omega, by omega, by decide⟩, wrA_T ⟨by omega, by omega, by decide⟩, rdA_R ⟨by omega, by omega, by decide⟩, wrA_T ⟨by omega, by omega, by decide⟩, rdA_R ⟨by omega, by omega, by decide⟩, r44, show Rz 1920 44 D (8 * k + L) = q from hq]
    rw [show Rz 1920 45 (Tz 7680 47 (Tz 7680 46 D1 (32 * k + t) child) (32 * k + t) x) (8 * k + L) = mc D k L from m45 L, m1, bnd_ok]
  · rw [m2.2 t' a b, R_T_ot (by decide), R_T_ot (by decide), R_T_ot (by decide), R_cg (e3 58 (by decide) (by decide))]
  · have : mc D2 k i = mc (Tz 1920 45 (Tz 7680 47 (Tz 7680 46 D1 (32 * k + t) child) (32 * k + t) x) (8 * k + L) (mc D k L + 1)) k i := by
      unfold mc
      exact R_cg (m2.1 45 (by decide)) _
    rw [this]
    unfold uI
    by_cases z : i = L
    · rw [if_pos z, z]
      unfold mc
      exact R_T_eq ⟨by omega, by omega⟩
    · rw [if_neg z, ← m45 i]
      unfold mc
      exact R_T_ne (by omega)
  · have q46 : me D2 k j = if j = t then child else me D1 k j := by
      unfold me
      rw [R_cg (m2.1 46 (by decide)), R_T_ot (by decide), R_T_ot (by decide), R_T]
      by_cases z : j = t
      · rw [if_pos ⟨⟨by omega, by omega⟩, by omega⟩, if_pos z]
      · rw [if_neg (fun w => z (by omega)), if_neg z]
    have q47 : mn_ D2 k j = if j = t then x else mn_ D1 k j := by
      unfold mn_
      rw [R_cg (m2.1 47 (by decide)), R_T_ot (by decide), R_T]
      by_cases z : j = t
      · rw [if_pos ⟨⟨by omega, by omega⟩, by omega⟩, if_pos z]
      · rw [if_neg (fun w => z (by omega)), if_neg z, R_T_ot (by decide)]
    have fin : ∀ (E : Int → Int) (v w : Int), w = (if t < j ∧ j ≤ N then E (j - 1) else E j) → (if j = t then v else w) = insF E t v j := fun E v w hw => by
      unfold insF
      by_cases z : j < t
      · rw [if_neg (show ¬ j = t by omega), if_pos z, hw, if_neg (show ¬ (t < j ∧ j ≤ N) by omega)]
      · rw [if_neg z]
        by_cases z2 : j = t
        · rw [if_pos z2, if_pos z2]
        · rw [if_neg z2, if_neg z2, hw, if_pos (show t < j ∧ j ≤ N by omega)]
    rw [q46, q47]
    exact ⟨fin _ _ _ (e4 j a (by omega)), fin _ _ _ (e5 j a (by omega))⟩
theorem entSplit_m {k : Int} (hk : 0 ≤ k ∧ k < 80) {D : DD} {n L fr p ix' nl : Int} (hn : Rz 240 42 D k = n) (hn8 : 1 ≤ n ∧ n < 8) (hL : 0 ≤ L ∧ L < n) (hfr : 0 ≤ fr ∧ fr < 5)
    (hix : (n = 1 ∧ Rz 8 66 D fr = ix' ∧ Rz 8 66 D (fr + 1) = nl) ∨ (2 ≤ n ∧ Rz 240 43 D k = ix' ∧ Rz 8 66 D fr = nl)) (hxs : Rz 3072 33 D ix' = 9) (hx0 : 0 ≤ ix' ∧ ix' + 9 ≤ 1024) (hp : Rz 240 40 D k = p) (hs : Rz 3072 33 D p = 6) (h0 : 0 ≤ p ∧ p + 6 ≤ 1024) :
    ∃ D', entSplit k L fr D = okR 0 D' ∧ Lk D D' k ∧ Mb D D' (fun t => sec ix' 9 t ∨ sec p 6 t) ∧ Rz 240 42 D' k = n + 1 ∧ Rz 240 43 D' k = ix' ∧ D' 46 = D 46 ∧ D' 47 = D 47 ∧ (∀ i, 0 ≤ i → i < n + 1 → ml D' k i = insF (ml D k) (L + 1) nl i) ∧ (∀ i, 0 ≤ i → i < n + 1 → mc D' k i = splF (mc D k) L i) := by
  -- behind the index
  have key : ∀ (D0 : DD) (g : Int), Lk D D0 k → (∀ b, b ≠ 43 → D0 b = D b) → Rz 240 43 D0 k = ix' → 0 ≤ g ∧ g < 8 → Rz 8 66 D g = nl →
      ∃ D', (rdA 240 42 k D0 fun v11 => pM_enters_292 k L fu v11 D0 fun D15 => rdA 8 66 g D15 fun v12 => wrA 1920 44 (((8 * k) + L) + 1) v12 D15 fun D16 => wrA 1920 45 (((8 * k) + L) + 1) 2 D16 fun D17 => wrA 1920 45 ((8 * k) + L) 3 D17 fun D18 =>
        rdA 240 42 k D18 fun v13 => wrA 240 42 k (v13 + 1) D18 fun D19 => rdA 240 43 k D19 fun v14 => bnd (pM_writes v14 D19) fun _ D20 => entEnd k D20) = okR 0 D' ∧
        Lk D D' k ∧ Mb D D' (fun t => sec ix' 9 t ∨ sec p 6 t) ∧ Rz 240 42 D' k = n + 1 ∧ Rz 240 43 D' k = ix' ∧ D' 46 = D 46 ∧ D' 47 = D 47 ∧ (∀ i, 0 ≤ i → i < n + 1 → ml D' k i = insF (ml D k) (L + 1) nl i) ∧ (∀ i, 0 ≤ i → i < n + 1 → mc D' k i = splF (mc D k) L i) := by
    intro D0 g l0 o0 x0 hg hgn
    have n0 : Rz 240 42 D0 k = n := by rw [R_cg (o0 42 (by decide)), hn]
    obtain ⟨D1, e1, e2, e3, e4, e5⟩ := e292_loop hk hL.1 fu n D0 (by omega) (by omega) (fu_gt (by omega))
    have ml0 : ∀ i, ml D0 k i = ml D k i := fun i => R_cg (o0 44 (by decide)) _
    have mc0 : ∀ i, mc D0 k i = mc D k i := fun i => R_cg (o0 45 (by decide)) _
    have a1 : Lk D1 (Tz 1920 44 D1 (8 * k + L + 1) nl) k := Lk.T1920 (Or.inl rfl) hk (by omega)
    have a2 : Lk (Tz 1920 44 D1 (8 * k + L + 1) nl) (Tz 1920 45 (Tz 1920 44 D1 (8 * k + L + 1) nl) (8 * k + L + 1) 2) k := Lk.T1920 (Or.inr rfl) hk (by omega)
    have a3 : Lk (Tz 1920 45 (Tz 1920 44 D1 (8 * k + L + 1) nl) (8 * k + L + 1) 2) (Tz 1920 45 (Tz 1920 45 (Tz 1920 44 D1 (8 * k + L + 1) nl) (8 * k + L + 1) 2) (8 * k + L) 3) k := Lk.T1920 (Or.inr rfl) hk (by omega)
    have a4 : Lk (Tz 1920 45 (Tz 1920 45 (Tz 1920 44 D1 (8 * k + L + 1) nl) (8 * k + L + 1) 2) (8 * k + L) 3) (Tz 240 42 (Tz 1920 45 (Tz 1920 45 (Tz 1920 44 D1 (8 * k + L + 1) nl) (8 * k + L + 1) 2) (8 * k + L) 3) k (n + 1)) k := Lk.T240 (Or.inl rfl) hk
    have ot : ∀ b, b ∉ [42, 43, 44, 45] → Tz 240 42 (Tz 1920 45 (Tz 1920 45 (Tz 1920 44 D1 (8 * k + L + 1) nl) (8 * k + L + 1) 2) (8 * k + L) 3) k (n + 1) b = D b := fun b hb => by
      rw [T_ot (nin hb (by decide)), T_ot (nin hb (by decide)), T_ot (nin hb (by decide)), T_ot (nin hb (by decide)), e3 b (nin hb (by decide)) (nin hb (by decide)), o0 b (nin hb (by decide))]
    have x43 : Rz 240 43 (Tz 240 42 (Tz 1920 45 (Tz 1920 45 (Tz 1920 44 D1 (8 * k + L + 1) nl) (8 * k + L + 1) 2) (8 * k + L) 3) k (n + 1)) k = ix' := by
      rw [R_T_ot (by decide), R_T_ot (by decide), R_T_ot (by decide), R_T_ot (by decide), R_cg (e3 43 (by decide) (by decide)), x0]
    have n18 : Rz 240 42 (Tz 1920 45 (Tz 1920 45 (Tz 1920 44 D1 (8 * k + L + 1) nl) (8 * k + L + 1) 2) (8 * k + L) 3) k = n := by
      rw [R_T_ot (by decide), R_T_ot (by decide), R_T_ot (by decide), R_cg (e3 42 (by decide) (by decide)), n0]
    obtain ⟨D2, m1, m2⟩ := mark_model (D := Tz 240 42 (Tz 1920 45 (Tz 1920 45 (Tz 1920 44 D1 (8 * k + L + 1) nl) (8 * k + L + 1) 2) (8 * k + L) 3) k (n + 1)) (p := ix') (n := 9) (by rw [R_cg (ot 33 (by decide))]; exact hxs) (by omega) hx0.1 hx0.2
    obtain ⟨D3, m3, m4⟩ := entEnd_m hk (D := D2) (p := p) (by rw [R_cg (m2.1 40 (by decide)), R_cg (ot 40 (by decide)), hp]) (by rw [R_cg (m2.1 33 (by decide)), R_cg (ot 33 (by decide)), hs]) h0
    have mm := m2.trans m4
    rw [rdA_R ⟨hk.1, by omega, by decide⟩, n0, e1, rdA_R ⟨by omega, by omega, by decide⟩, R_cg (e3 66 (by decide) (by decide)), R_cg (o0 66 (by decide)), hgn, wrA_T ⟨by omega, by omega, by decide⟩, wrA_T ⟨by omega, by omega, by decide⟩, wrA_T ⟨by omega, by omega, by decide⟩,
      rdA_R ⟨hk.1, by omega, by decide⟩, n18, wrA_T ⟨by omega, by omega, by decide⟩, rdA_R ⟨hk.1, by omega, by decide⟩, x43, m1, bnd_ok, m3]
    refine ⟨D3, rfl, l0.trans (e2.trans (a1.trans (a2.trans (a3.trans (a4.trans (Lk.of58 mm)))))), fun t' a b => ?_, ?_, ?_, ?_, ?_, fun i a b => ?_, fun i a b => ?_⟩
    · rw [mm.2 t' a b, R_cg (ot 58 (by decide))]
    · rw [R_cg (mm.1 42 (by decide)), R_T_eq ⟨by omega, by omega⟩]
    · rw [R_cg (mm.1 43 (by decide)), x43]
    · rw [mm.1 46 (by decide), ot 46 (by decide)]
    · rw [mm.1 47 (by decide), ot 47 (by decide)]
    · have : ml D3 k i = if i = L + 1 then nl else ml D1 k i := by
        unfold ml
        rw [R_cg (mm.1 44 (by decide)), R_T_ot (by decide), R_T_ot (by decide), R_T_ot (by decide), R_T]
        by_cases z : i = L + 1
        · rw [if_pos ⟨⟨by omega, by omega⟩, by omega⟩, if_pos z]
        · rw [if_neg (fun w => z (by omega)), if_neg z]
      rw [this, e4 i a (by omega), ml0, ml0]
      unfold insF
      by_cases z : i < L + 1
      · rw [if_neg (show ¬ i = L + 1 by omega), if_neg (show ¬ (L + 1 < i ∧ i ≤ n) by omega), if_pos z]
      · by_cases z2 : i = L + 1
        · rw [if_pos z2, if_neg z, if_pos z2]
        · rw [if_neg z2, if_pos (show L + 1 < i ∧ i ≤ n by omega), if_neg z, if_neg z2]
    · have : mc D3 k i = if i = L then 3 else if i = L + 1 then 2 else mc D1 k i := by
        unfold mc
        rw [R_cg (mm.1 45 (by decide)), R_T_ot (by decide), R_T, R_T, R_T_ot (by decide)]
        by_cases z : i = L
        · rw [if_pos ⟨⟨by omega, by omega⟩, by omega⟩, if_pos z]
        · rw [if_neg (fun w => z (by omega)), if_neg z]
          by_cases z2 : i = L + 1
          · rw [if_pos ⟨⟨by omega, by omega⟩, by omega⟩, if_pos z2]
          · rw [if_neg (fun w => z2 (by omega)), if_neg z2]
      rw [this, e5 i a (by omega), mc0, mc0]
      unfold splF
      by_cases z : i < L
      · rw [if_neg (show ¬ i = L by omega), if_neg (show ¬ i = L + 1 by omega), if_neg (show ¬ (L + 1 < i ∧ i ≤ n) by omega), if_pos z]
      · by_cases z2 : i = L
        · rw [if_pos z2, if_neg z, if_pos z2]
        · by_cases z3 : i = L + 1
          · rw [if_neg z2, if_pos z3, if_neg z, if_neg z2, if_pos z3]
          · rw [if_neg z2, if_neg z3, if_pos (show L + 1 < i ∧ i ≤ n by omega), if_neg z, if_neg z2, if_neg z3]
  unfold entSplit
  simp only [jnR]
  rw [rdA_R ⟨hk.1, by omega, by decide⟩, hn, w32_of (z := n) (by omega)]
  rcases hix with ⟨w1, w2, w3⟩ | ⟨w1, w2, w3⟩
  · rw [if_pos w1, rdA_R ⟨by omega, by omega, by decide⟩, w2, wrA_T ⟨by omega, by omega, by decide⟩]
    exact key (Tz 240 43 D k ix') (fr + 1) (Lk.T240 (Or.inr rfl) hk) (fun b hb => T_ot hb) (R_T_eq ⟨by omega, by omega⟩) (by omega) w3
  · rw [if_neg (by omega)]
    exact key D fr (Lk.rf D k) (fun _ _ => rfl) w2 (by omega) w3
