/-! all or none, side by side -/
theorem nin {b x : Nat} {L : List Nat} (h : b ∉ L) (hx : x ∈ L) : b ≠ x := fun e => h (e ▸ hx)
theorem nsub {b : Nat} {L M : List Nat} (h : b ∉ L) (hs : ∀ x ∈ M, x ∈ L) : b ∉ M := fun z => h (hs b z)
theorem cpy_ot {D : DD} {a0 a1 n b : Nat} (h : b ≠ a1) : cpy2 D a0 a1 n b = D b := by unfold cpy2; rw [if_neg h]
theorem R_cpy {D : DD} {a0 a1 n : Nat} (i : Int) : Rz n a1 (cpy2 D a0 a1 n) i = Rz n a0 D i := by
  unfold Rz
  split
  · unfold cpy2
    rw [if_pos rfl]
    exact if_pos (by omega)
  · rfl
theorem CR.cong {Dc Dm Dc' Dm' : DD} (h : CR Dc Dm) (h3 : ∀ u, Rz 1024 3 Dc' u = Rz 1024 3 Dc u) (h2 : Dc' 2 4 = Dc 2 4) (h33 : ∀ u, 0 ≤ u → u < 1024 → Rz 3072 33 Dm' u = Rz 3072 33 Dm u) (h34 : Dm' 34 0 = Dm 34 0) : CR Dc' Dm' := by
  obtain ⟨a, b, c, d⟩ := h
  refine ⟨?_, ?_, ?_, fun k h1 h5 => ?_⟩
  · rw [h2]; exact a.cong h3
  · rw [h2]; exact b
  · rw [h34, h2]; exact c
  · rw [h33 k h1 h5, h3, d k h1 h5]
theorem kept_loop : ∀ (f : Nat) (a : Int) (D : DD), 0 ≤ a → a ≤ 1024 → (1024 - a).toNat < f → ∃ D', (∀ K, pM_gets_9 f a D K = K D') ∧ (∀ b, b ≠ 67 → D' b = D b) ∧ (∀ k, 1024 ≤ k → D' 67 k = D 67 k) ∧ ∀ i, 0 ≤ i → i < 1024 → Rz 1024 67 D' i = if a ≤ i then Rz 3072 33 D i else Rz 1024 67 D i := by
  intro f
  induction f with
  | zero => intro a D h1 h2 h3; omega
  | succ f ih =>
    intro a D h1 h2 h3
    by_cases g : a < 1024
    · obtain ⟨D', e1, e2, e3, e4⟩ := ih (a + 1) (Tz 1024 67 D a (Rz 3072 33 D a)) (by omega) (by omega) (by omega)
      refine ⟨D', fun K => ?_, fun b hb => (e2 b hb).trans (T_ot hb), fun k hk => (e3 k hk).trans ?_, fun i b1 b2 => ?_⟩
      · rw [pM_gets_9, w32_of (z := a) (by omega), if_pos g, rdA_R ⟨h1, by omega, by decide⟩, wrA_T ⟨h1, by omega, by decide⟩]
        exact e1 K
      · unfold Tz
        rw [if_pos ⟨by omega, by omega⟩, up2_nk (by omega)]
      · rw [e4 i b1 b2]
        by_cases q : a + 1 ≤ i
        · rw [if_pos q, if_pos (by omega), R_T_ot (by decide)]
        · rw [if_neg q]
          by_cases q2 : i = a
          · subst q2
            rw [R_T_eq ⟨by omega, by omega⟩, if_pos (Int.le_refl _)]
          · rw [R_T_ne q2, if_neg (by omega)]
    · refine ⟨D, fun K => ?_, fun _ _ => rfl, fun _ _ => rfl, fun i b1 b2 => ?_⟩
      · rw [pM_gets_9, w32_of (z := a) (by omega), if_neg g]
      · rw [if_neg (by omega)]
theorem rest_loop (v : Int) : ∀ (f : Nat) (a : Int) (D : DD), 0 ≤ a → a ≤ 1024 → (1024 - a).toNat < f → ∃ D', pM_gets_101 v f a D = okZ v D' ∧ (∀ b, b ≠ 33 → D' b = D b) ∧ HiEq D D' ∧ ∀ i, 0 ≤ i → i < 1024 → Rz 3072 33 D' i = if a ≤ i then Rz 1024 67 D i else Rz 3072 33 D i := by
  intro f
  induction f with
  | zero => intro a D h1 h2 h3; omega
  | succ f ih =>
    intro a D h1 h2 h3
    by_cases g : a < 1024
    · obtain ⟨D', e1, e2, e3, e4⟩ := ih (a + 1) (Tz 3072 33 D a (Rz 1024 67 D a)) (by omega) (by omega) (by omega)
      refine ⟨D', ?_, fun b hb => (e2 b hb).trans (T_ot hb), (HiEq.T (m := 1024) rfl (by omega)).trans e3, fun i b1 b2 => ?_⟩
      · rw [pM_gets_101, w32_of (z := a) (by omega), if_pos g, rdA_R ⟨h1, by omega, by decide⟩, wrA_T ⟨h1, by omega, by decide⟩]
        exact e1
      · rw [e4 i b1 b2]
        by_cases q : a + 1 ≤ i
        · rw [if_pos q, if_pos (by omega), R_T_ot (by decide)]
        · rw [if_neg q]
          by_cases q2 : i = a
          · subst q2
            rw [R_T_eq ⟨by omega, by omega⟩, if_pos (Int.le_refl _)]
          · rw [R_T_ne q2, if_neg (by omega)]
    · refine ⟨D, ?_, fun _ _ => rfl, HiEq.rf _, fun i b1 b2 => ?_⟩
      · rw [pM_gets_101, w32_of (z := a) (by omega), if_neg g]
      · rw [if_neg (by omega)]
theorem g38_end {g : Nat} {a c : Int} {D : DD} (hm : D 32 37 = c) (ha : 0 ≤ a ∧ a ≤ 10) (hc : 0 ≤ c ∧ c ≤ 6) : ∀ K, pM_gets_38 (g + 1) 0 a D K = K 0 D := by
  intro K
  rw [pM_gets_38, w32_of (z := a) (by omega), hm, w32_of (z := c) (by omega), if_pos w32_k0]
  split <;> rfl
theorem gets_loop {c : Int} (hc : 0 ≤ c ∧ c ≤ 6) : ∀ (f g : Nat) (a : Int) (Dc Dm : DD), CR Dc Dm → Dc 7 4 = c → Dm 32 37 = c → (∀ i, 0 ≤ i → i < c → Rz 8 65 Dm i = Rz 6 8 Dc i ∧ 1 ≤ Rz 6 8 Dc i ∧ Rz 6 8 Dc i ≤ 1000) → 0 ≤ a → a ≤ c → (c - a).toNat + 1 < f → (c - a).toNat + 1 < g →
    ∃ Dc' Dm', CR Dc' Dm' ∧ (∀ b, b ∉ [2, 3, 9] → Dc' b = Dc b) ∧ Dc' 2 5 = Dc 2 5 ∧ (∀ b, b ∉ [33, 34, 66] → Dm' b = Dm b) ∧ HiEq Dm Dm' ∧
      (((∀ K1 K2, pC_getAllWanted_31 f a Dc K1 K2 = K1 Dc') ∧ (∀ K, pM_gets_38 g 1 a Dm K = K 1 Dm') ∧ Us Dc Dc' ∧
        (∀ i, 0 ≤ i → i < a → Rz 6 9 Dc' i = Rz 6 9 Dc i ∧ Rz 8 66 Dm' i = Rz 8 66 Dm i) ∧
        (∀ i, a ≤ i → i < c → Rz 8 66 Dm' i = Rz 6 9 Dc' i ∧ 4 ≤ Rz 6 9 Dc' i ∧ Rz 1024 3 Dc (Rz 6 9 Dc' i) ≤ 0 ∧ Rz 1024 3 Dc' (Rz 6 9 Dc' i) = Rz 6 8 Dc i ∧ ∀ j, a ≤ j → j < i → Rz 6 9 Dc' j ≠ Rz 6 9 Dc' i)) ∨
      ((∀ K1 K2, pC_getAllWanted_31 f a Dc K1 K2 = K2 Dc') ∧ (∀ K, pM_gets_38 g 1 a Dm K = K 0 Dm'))) := by
  intro f
  induction f with
  | zero => intro g a Dc Dm _ _ _ _ _ _ h; omega
  | succ f ih =>
    intro g a Dc Dm hC h7 h37 hw ha hac hf hg
    match g, hg with
    | g + 1, hg =>
      by_cases hlt : a < c
      · obtain ⟨w1, w2, w3⟩ := hw a ha hlt
        obtain ⟨r, Dc1, Dm1, t1, t2, t3, t4, t5, t6, t7⟩ := take_both hC ⟨w2, w3⟩
        have hr : -1 ≤ r ∧ r < 1024 := by
          rcases t7 with q | ⟨q1, q2, q3⟩
          · omega
          · have := t3.1.in (u := r) (by omega) (by have := t3.2.1; omega)
            omega
        have cls : ∀ K1 K2, pC_getAllWanted_31 (f + 1) a Dc K1 K2 = if r = -1 then K2 Dc1 else pC_getAllWanted_31 f (a + 1) (Tz 6 9 Dc1 a r) K1 K2 := by
          intro K1 K2
          rw [pC_getAllWanted_31, w32_of (z := a) (by omega), h7, w32_of (z := c) (by omega), if_pos hlt, rd_R (by omega), t1, bnd_ok]
          simp only [gD]
          rw [sto_T (by omega)]
          by_cases q : r = -1
          · rw [q, if_pos rfl]
            exact if_pos w32_k0
          · have hz : zof r = r := if_neg q
            rw [hz, w32_of (by omega), if_neg q, if_neg]
            rcases t7 with q7 | q7
            · exact absurd q7 q
            · omega
        have mdl : ∀ K, pM_gets_38 (g + 1) 1 a Dm K = if r = -1 then pM_gets_38 g 0 (a + 1) (Tz 8 66 Dm1 a r) K else pM_gets_38 g 1 (a + 1) (Tz 8 66 Dm1 a r) K := by
          intro K
          rw [pM_gets_38, w32_of (z := a) (by omega), h37, w32_of (z := c) (by omega), if_pos hlt, w32_k1, if_neg (by decide), rdA_R ⟨ha, by omega, by decide⟩, w1, t2, bnd_ok, wrA_T ⟨ha, by omega, by decide⟩, rdA_R ⟨ha, by omega, by decide⟩, R_T_eq ⟨ha, by omega⟩, w32_of (z := r) (by omega)]
          rfl
        by_cases q : r = -1
        · refine ⟨Dc1, Tz 8 66 Dm1 a r, t3.cong (fun _ => rfl) rfl (fun _ _ _ => R_T_ot (by decide)) (by rw [T_ot (by decide)]), fun b hb => t4.1 b (nin hb (by decide)) (nin hb (by decide)), t4.2, fun b hb => (T_ot (nin hb (by decide))).trans (t5.1 b (nin hb (by decide)) (nin hb (by decide))), t5.2.trans (HiEq.T (m := 1000000) rfl (by omega)), Or.inr ⟨fun K1 K2 => ?_, fun K => ?_⟩⟩
          · rw [cls, if_pos q]
          · rw [mdl, if_pos q]
            match g, hg with
            | g + 1, hg => exact g38_end (c := c) (by rw [T_ot (by decide), t5.1 32 (by decide) (by decide)]; exact h37) (by omega) hc K
        · obtain ⟨q1, q2, q3⟩ := t7.resolve_left q
          obtain ⟨Dc', Dm', e1, e2, e3, e4, e5, e6⟩ := ih g (a + 1) (Tz 6 9 Dc1 a r) (Tz 8 66 Dm1 a r) (t3.cong (fun _ => R_T_ot (by decide)) (by rw [T_ot (by decide)]) (fun _ _ _ => R_T_ot (by decide)) (by rw [T_ot (by decide)]))
            (by rw [T_ot (by decide), t4.1 7 (by decide) (by decide)]; exact h7) (by rw [T_ot (by decide), t5.1 32 (by decide) (by decide)]; exact h37)
            (fun i b1 b2 => by rw [R_T_ot (by decide), R_T_ot (by decide), R_cg (t5.1 65 (by decide) (by decide)), R_cg (t4.1 8 (by decide) (by decide))]; exact hw i b1 b2) (by omega) (by omega) (by omega) (by omega)
          refine ⟨Dc', Dm', e1, fun b hb => (e2 b hb).trans ((T_ot (nin hb (by decide))).trans (t4.1 b (nin hb (by decide)) (nin hb (by decide)))), e3.trans (by rw [T_ot (by decide)]; exact t4.2), fun b hb => (e4 b hb).trans ((T_ot (nin hb (by decide))).trans (t5.1 b (nin hb (by decide)) (nin hb (by decide)))), t5.2.trans ((HiEq.T (m := 1000000) rfl (by omega)).trans e5), ?_⟩
          have hTs : ∀ u, Rz 1024 3 (Tz 6 9 Dc1 a r) u = Rz 1024 3 Dc1 u := fun u => R_T_ot (by decide)
          have h8 : ∀ i, Rz 6 8 (Tz 6 9 Dc1 a r) i = Rz 6 8 Dc i := fun i => by rw [R_T_ot (by decide), R_cg (t4.1 8 (by decide) (by decide))]
          rcases e6 with ⟨f1, f2, f3, f4, f5⟩ | ⟨f1, f2⟩
          · have us : Us Dc Dc' := fun u hu => by
              have a1 := t6 u hu
              have a2 := f3 u (by rw [hTs, a1]; exact hu)
              rw [a2, hTs, a1]
            have ga := f4 a ha (by omega)
            rw [R_T_eq ⟨ha, by omega⟩, R_T_eq ⟨ha, by omega⟩] at ga
            have hs1 : Rz 1024 3 Dc' r = Rz 6 8 Dc a := by
              rw [f3 r (by rw [hTs, q3]; omega), hTs, q3]
            refine Or.inl ⟨fun K1 K2 => ?_, fun K => ?_, us, fun i b1 b2 => ?_, fun i b1 b2 => ?_⟩
            · rw [cls, if_neg q]; exact f1 K1 K2
            · rw [mdl, if_neg q]; exact f2 K
            · obtain ⟨g1, g2⟩ := f4 i b1 (by omega)
              rw [g1, g2, R_T_ne (by omega), R_T_ne (by omega), R_cg (t4.1 9 (by decide) (by decide)), R_cg (t5.1 66 (by decide) (by decide))]
              exact ⟨rfl, rfl⟩
            · by_cases q4 : i = a
              · subst q4
                rw [ga.1, ga.2]
                exact ⟨rfl, q1, q2, hs1, fun j c1 c2 => by omega⟩
              · obtain ⟨g1, g2, g3, g4, g5⟩ := f5 i (by omega) b2
                rw [hTs] at g3
                rw [h8] at g4
                refine ⟨g1, g2, Int.not_lt.mp fun z => ?_, g4, fun j c1 c2 => ?_⟩
                · have := t6 _ z
                  omega
                · by_cases q5 : j = a
                  · rw [q5, ga.1]
                    intro z
                    rw [← z, q3] at g3
                    omega
                  · exact g5 j (by omega) c2
          · exact Or.inr ⟨fun K1 K2 => by rw [cls, if_neg q]; exact f1 K1 K2, fun K => by rw [mdl, if_neg q]; exact f2 K⟩
      · refine ⟨Dc, Dm, hC, fun _ _ => rfl, rfl, fun _ _ => rfl, HiEq.rf _, Or.inl ⟨fun K1 K2 => ?_, fun K => ?_, fun _ _ => rfl, fun _ _ _ => ⟨rfl, rfl⟩, fun i b1 b2 => by omega⟩⟩
        · rw [pC_getAllWanted_31, w32_of (z := a) (by omega), h7, w32_of (z := c) (by omega), if_neg hlt]
        · rw [pM_gets_38, w32_of (z := a) (by omega), h37, w32_of (z := c) (by omega), if_neg hlt]
theorem gmark_loop {c : Int} (hc : 0 ≤ c ∧ c ≤ 6) : ∀ (f : Nat) (a : Int) (D : DD), D 7 4 = c → (∀ i, a ≤ i → i < c → 0 ≤ Rz 6 9 D i ∧ 1 ≤ Rz 1024 3 D (Rz 6 9 D i) ∧ Rz 6 9 D i + Rz 1024 3 D (Rz 6 9 D i) ≤ 1024) → 0 ≤ a → a ≤ c → (c - a).toNat < f →
    ∃ D', pC_getAllWanted_104 f a D = okR 1 D' ∧ Mk D D' (fun t => ∃ i, a ≤ i ∧ i < c ∧ sec (Rz 6 9 D i) (Rz 1024 3 D (Rz 6 9 D i)) t) := by
  intro f
  induction f with
  | zero => intro a D _ _ _ _ h; omega
  | succ f ih =>
    intro a D h7 hp ha hac hf
    rw [pC_getAllWanted_104, w32_of (z := a) (by omega), h7, w32_of (z := c) (by omega)]
    by_cases hlt : a < c
    · rw [if_pos hlt, rd_R (by omega)]
      obtain ⟨p1, p2, p3⟩ := hp a (Int.le_refl _) hlt
      obtain ⟨D1, m1, m2⟩ := mark_class (D := D) (p := Rz 6 9 D a) rfl p2 p1 p3
      have e9 : ∀ i, Rz 6 9 D1 i = Rz 6 9 D i := fun i => R_cg (m2.1 9 (by decide)) i
      have e3 : ∀ i, Rz 1024 3 D1 i = Rz 1024 3 D i := fun i => R_cg (m2.1 3 (by decide)) i
      obtain ⟨D', n1, n2⟩ := ih (a + 1) D1 (by rw [m2.2.1 4 (by decide)]; exact h7) (fun i b1 b2 => by rw [e9, e3]; exact hp i (by omega) b2) (by omega) (by omega) (by omega)
      rw [m1, bnd_ok]
      refine ⟨D', n1, (m2.trans n2).iff (fun t _ _ => ?_)⟩
      simp only [e9, e3]
      constructor
      · rintro (q | ⟨i, q1, q2, q3⟩)
        · exact ⟨a, Int.le_refl _, hlt, q⟩
        · exact ⟨i, by omega, q2, q3⟩
      · rintro ⟨i, q1, q2, q3⟩
        by_cases q : i = a
        · subst q
          exact Or.inl q3
        · exact Or.inr ⟨i, by omega, q2, q3⟩
    · rw [if_neg hlt]
      refine ⟨D, rfl, (Mk.none D).iff (fun t _ _ => ?_)⟩
      constructor
      · exact False.elim
      · rintro ⟨i, q1, q2, -⟩; omega
theorem gets_both {Dc Dm : DD} {c : Int} (hC : CR Dc Dm) (hc : 0 ≤ c ∧ c ≤ 6) (h7 : Dc 7 4 = c) (h37 : Dm 32 37 = c) (hw : ∀ i, 0 ≤ i → i < c → Rz 8 65 Dm i = Rz 6 8 Dc i ∧ 1 ≤ Rz 6 8 Dc i ∧ Rz 6 8 Dc i ≤ 1000) :
    ∃ Dc' Dm', CR Dc' Dm' ∧ (∀ b, b ∉ [2, 3, 7, 9, 10] → Dc' b = Dc b) ∧ Dc' 2 5 = Dc 2 5 ∧ (∀ k, k ≠ 5 → Dc' 7 k = Dc 7 k) ∧ (∀ b, b ∉ [33, 34, 66, 67] → Dm' b = Dm b) ∧ HiEq Dm Dm' ∧
      ((pC_getAllWanted Dc = okR 1 Dc' ∧ pM_gets Dm = okR 1 Dm' ∧ Us Dc Dc' ∧
        (∀ i, 0 ≤ i → i < c → Rz 8 66 Dm' i = Rz 6 9 Dc' i ∧ 4 ≤ Rz 6 9 Dc' i ∧ Rz 1024 3 Dc (Rz 6 9 Dc' i) ≤ 0 ∧ Rz 1024 3 Dc' (Rz 6 9 Dc' i) = Rz 6 8 Dc i ∧ ∀ j, 0 ≤ j → j < i → Rz 6 9 Dc' j ≠ Rz 6 9 Dc' i) ∧
        (∀ t, 0 ≤ t → t < 64 → (bit (Dc' 7 5) t = true ↔ bit (Dc 7 5) t = true ∨ ∃ i, 0 ≤ i ∧ i < c ∧ sec (Rz 6 9 Dc' i) (Rz 6 8 Dc i) t))) ∨
      (pC_getAllWanted Dc = okR 0 Dc' ∧ pM_gets Dm = okR 0 Dm' ∧ (∀ u, Rz 1024 3 Dc' u = Rz 1024 3 Dc u) ∧ Dc' 2 4 = Dc 2 4 ∧ Dc' 7 5 = Dc 7 5)) := by
  -- what was
  obtain ⟨Dm1, k1, k2, k3, k4⟩ := kept_loop fu 0 Dm (by omega) (by omega) (fu_gt (by omega))
  have kHi : HiEq Dm Dm1 := HiEq.ot (fun b _ _ => k2 b (by omega))
  have hC1 : CR (cpy2 Dc 3 10 1024) Dm1 := hC.cong (fun u => R_cg (cpy_ot (by decide)) u) (by rw [cpy_ot (by decide)]) (fun u _ _ => R_cg (k2 33 (by decide)) u) (by rw [k2 34 (by decide)])
  have e8 : ∀ i, Rz 6 8 (cpy2 Dc 3 10 1024) i = Rz 6 8 Dc i := fun i => R_cg (cpy_ot (by decide)) i
  have es : ∀ i, Rz 1024 3 (cpy2 Dc 3 10 1024) i = Rz 1024 3 Dc i := fun i => R_cg (cpy_ot (by decide)) i
  obtain ⟨Dc2, Dm2, l1, l2, l3, l4, l5, l6⟩ := gets_loop hc fu fu 0 (cpy2 Dc 3 10 1024) Dm1 hC1 (by rw [cpy_ot (by decide)]; exact h7) (by rw [k2 32 (by decide)]; exact h37)
    (fun i b1 b2 => by rw [e8, R_cg (k2 65 (by decide))]; exact hw i b1 b2) (by omega) (by omega) (fu_gt (by omega)) (fu_gt (by omega))
  unfold pC_getAllWanted pM_gets
  simp only [ltR, gD]
  rw [k1]
  rcases l6 with ⟨f1, f2, f3, f4, f5⟩ | ⟨f1, f2⟩
  · rw [f1, f2, w32_k1, if_neg (by decide), okZ_ok (Or.inr rfl)]
    have hp : ∀ i, 0 ≤ i → i < c → 0 ≤ Rz 6 9 Dc2 i ∧ 1 ≤ Rz 1024 3 Dc2 (Rz 6 9 Dc2 i) ∧ Rz 6 9 Dc2 i + Rz 1024 3 Dc2 (Rz 6 9 Dc2 i) ≤ 1024 := fun i b1 b2 => by
      obtain ⟨g1, g2, g3, g4, g5⟩ := f5 i b1 b2
      rw [e8] at g4
      have w := hw i b1 b2
      have := l1.1.1 (Rz 6 9 Dc2 i) (by omega)
      have := l1.2.1
      omega
    obtain ⟨Dc3, m1, m2⟩ := gmark_loop hc fu 0 Dc2 (by rw [l2 7 (by decide), cpy_ot (by decide)]; exact h7) hp (by omega) (by omega) (fu_gt (by omega))
    have e9 : ∀ i, Rz 6 9 Dc3 i = Rz 6 9 Dc2 i := fun i => R_cg (m2.1 9 (by decide)) i
    have e3 : ∀ i, Rz 1024 3 Dc3 i = Rz 1024 3 Dc2 i := fun i => R_cg (m2.1 3 (by decide)) i
    refine ⟨Dc3, Dm2, l1.cong e3 (by rw [m2.1 2 (by decide)]) (fun _ _ _ => rfl) rfl, fun b hb => ?_, ?_, fun k hk => ?_, fun b hb => ?_, kHi.trans l5, Or.inl ⟨m1, rfl, fun u hu => ?_, fun i b1 b2 => ?_, fun t b1 b2 => ?_⟩⟩
    · rw [m2.1 b (nin hb (by decide)), l2 b (nsub hb (by decide)), cpy_ot (nin hb (by decide))]
    · rw [m2.1 2 (by decide), l3, cpy_ot (by decide)]
    · rw [m2.2.1 k hk, l2 7 (by decide), cpy_ot (by decide)]
    · rw [l4 b (nsub hb (by decide)), k2 b (nin hb (by decide))]
    · rw [e3, f3 u (by rw [es]; exact hu), es]
    · obtain ⟨g1, g2, g3, g4, g5⟩ := f5 i b1 b2
      rw [es] at g3
      rw [e8] at g4
      simp only [e9, e3]
      exact ⟨g1, g2, g3, g4, g5⟩
    · rw [m2.2.2 t b1 b2, l2 7 (by decide), cpy_ot (by decide)]
      simp only [e9]
      constructor
      · rintro (q | ⟨i, q1, q2, q3⟩)
        · exact Or.inl q
        · obtain ⟨-, -, -, g4, -⟩ := f5 i q1 q2
          rw [e8] at g4
          rw [g4] at q3
          exact Or.inr ⟨i, q1, q2, q3⟩
      · rintro (q | ⟨i, q1, q2, q3⟩)
        · exact Or.inl q
        · obtain ⟨-, -, -, g4, -⟩ := f5 i q1 q2
          rw [e8] at g4
          rw [← g4] at q3
          exact Or.inr ⟨i, q1, q2, q3⟩
  · obtain ⟨Dm3, r1, r2, r3, r4⟩ := rest_loop 0 fu 0 (up2 Dm2 34 0 (Dm 34 0)) (by omega) (by omega) (fu_gt (by omega))
    rw [f1, f2, if_pos w32_k0, r1, okZ_ok (Or.inl rfl)]
    have s1 : ∀ u, Rz 1024 3 (cpy2 (up2 Dc2 2 4 (Dc 2 4)) 10 3 1024) u = Rz 1024 3 Dc u := fun u => by
      rw [R_cpy, R_up2_ot (by decide), R_cg (l2 10 (by decide)), R_cpy]
    refine ⟨_, Dm3, hC.cong s1 ?_ (fun u b1 b2 => ?_) ?_, fun b hb => ?_, ?_, fun k hk => ?_, fun b hb => ?_, ?_, Or.inr ⟨rfl, rfl, s1, ?_, ?_⟩⟩
    · rw [cpy_ot (by decide), up2_eq]
    · rw [r4 u b1 b2, if_pos b1, R_up2_ot (by decide), R_cg (l4 67 (by decide)), k4 u b1 b2, if_pos b1]
    · rw [r2 34 (by decide), up2_eq]
    · rw [cpy_ot (nin hb (by decide)), up2_ot (nin hb (by decide)), l2 b (nsub hb (by decide)), cpy_ot (nin hb (by decide))]
    · rw [cpy_ot (by decide), up2_nk (by decide), l3, cpy_ot (by decide)]
    · rw [cpy_ot (by decide), up2_ot (by decide), l2 7 (by decide), cpy_ot (by decide)]
    · rw [r2 b (nin hb (by decide)), up2_ot (nin hb (by decide)), l4 b (nsub hb (by decide)), k2 b (nin hb (by decide))]
    · exact kHi.trans (l5.trans ((HiEq.up (m := 1) rfl (by decide)).trans r3))
    · rw [cpy_ot (by decide), up2_eq]
    · rw [cpy_ot (by decide), up2_ot (by decide), l2 7 (by decide), cpy_ot (by decide)]
