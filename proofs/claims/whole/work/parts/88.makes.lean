/-! a new key, class and reference -/
section MAKES
variable {Dc Dm : DD} {m : Int}
theorem makes_both {k x ta K n L c : Int} {g w : Int → Int} (h : Tr Dc Dm) (hk : 0 ≤ k ∧ k < 80) (ht : th Dm k) (hx : 0 ≤ x ∧ x ≤ 9999) (hta : ta = -1 ∨ (0 ≤ ta ∧ ta < 80)) (hKr : Dm 35 0 = K) (hK : K < 80) (hnl : Rz 240 39 Dm k = -1)
    (hnew : ∀ j, 0 ≤ j → j < sm (mc Dm k) (Rz 240 42 Dm k) → mn_ Dm k j ≠ x) (hn : Rz 240 42 Dm k = n) (hlf : pM_leafFor k x Dm = okR L Dm) (hc : 1 ≤ c ∧ c ≤ 6) (h37 : Dm 32 37 = c)
    (hg : ∀ i, 0 ≤ i → i < c → Rz 6 9 Dc i = g i ∧ Rz 8 66 Dm i = g i ∧ Fs (th Dm) (Rz 768 56 Dm) (Rz 768 57 Dm) Dc Dm (g i) (w i) ∧ (4 ≤ g i ∧ g i + w i ≤ 1024)) (hgn : ∀ i j, 0 ≤ i → i < j → j < c → g i ≠ g j) (w0 : w 0 = 6)
    (hE : (n = 0 ∧ 1 < c ∧ w 1 = 5) ∨ (1 ≤ n ∧ mc Dm k L < 4) ∨ (n = 1 ∧ mc Dm k L = 4 ∧ 2 < c ∧ w 1 = 9 ∧ w 2 = 5) ∨ (2 ≤ n ∧ n < 8 ∧ mc Dm k L = 4 ∧ 1 < c ∧ w 1 = 5))
    (hDy : ∀ t, 0 ≤ t → t < 64 → (bit (Dc 7 5) t = true ↔ w32 (Rz 64 58 Dm t) ≠ 0 ∨ ∃ i, 0 ≤ i ∧ i < c ∧ sec (g i) (w i) t)) (hW : Wt Dc Dm m) (hm : m ≤ 700000) :
    ∃ Dc' Dm', (gD (pH_enterKey (pC_got 0 Dc) x k ta Dc) fun D9 => gD (pI_putUnit (pC_got 0 Dc + 4) (pI_unitAt (Rz 240 40 Dm k + 4) Dc) D9) fun D10 => bnd (pS_changeCount (pI_unitAt (Rz 240 40 Dm k + 4) Dc) 1 D10) fun _ D11 => bnd (pL_putIn (Rz 240 40 Dm k) (rk x * 80 + K) 1 D11) fun _ D12 => bnd (pH_tellUpwards k 1 D12) fun _ D13 => okR K D13) = okR K Dc' ∧
      pM_makes k x ta Dm = okR K Dm' ∧ Tr Dc' Dm' ∧ Dy Dc' Dm' ∧ Wt Dc' Dm' (m + 80) ∧ Oc Dc Dc' ∧ Om Dm Dm' ∧ Dm' 32 42 = Dm 32 42 := by
  have hkr := St.kr h hk ht
  obtain ⟨p1, p2, p3⟩ := h.place hk ht
  have hT := h.1.1.1
  have hsc := h.1.1.2.1
  have n8 := hkr.2.2.2.2.1.1
  obtain ⟨ri, hri⟩ : ∃ r, Rz 240 41 Dm k = r := ⟨_, rfl⟩
  have hrb := hkr.2.2.2.1.2.1
  have hhas := h.2.has hk ht hrb
  rw [hri] at hrb hhas
  have hkK : k < K := by have := (h.2.2.1 k hk.1 hk.2).2 ht; omega
  have hTK : ¬ th Dm K := fun z => by have := (h.2.2.1 K (by omega) hK).2 z; omega
  obtain ⟨g1, g2, g3, g4⟩ := hg 0 (by omega) (by omega)
  rw [w0] at g3 g4
  have u4 : pI_unitAt (Rz 240 40 Dm k + 4) Dc = ri := by
    unfold pI_unitAt
    rw [rd_R (by omega), hkr.2.2.1.2.2.1, hri]
  have gt0 : pC_got 0 Dc = g 0 := by
    unfold pC_got
    rw [rd_R (by omega), g1]
  rw [u4, gt0]
  -- the reference: marks of what was got, the row
  obtain ⟨Dm1, b1, b2⟩ := writesGot_m (g := g) (w := w) (D := Dm) (by omega) h37 (fun i x1 x2 => by
    obtain ⟨y1, y2, y3, y4⟩ := hg i x1 x2
    exact ⟨y2, by rw [h.1.1.2.2.2 _ (by omega) (by have := y3.2.1; omega)]; exact y3.1, y3.2.1, by omega, y4.2⟩)
  obtain ⟨Dm2, r1, r2, r3, r4, r5, r6, r7, r8, r9, r10, r11, r12, r13, r14⟩ := row_m (D := Dm1) (K := K) (k := k) (x := x) (ta := ta) (p := g 0) (ri := ri) (by omega) hk (by omega) (by
    have := g2
    have e := b2.1 66 (by decide)
    rw [e]
    unfold Rz at this
    rw [if_pos ⟨by omega, by omega⟩] at this
    exact this) (by rw [R_cg (b2.1 41 (by decide))]; exact hri)
  have f2 : ∀ b, b ∉ [35, 36, 37, 38, 39, 40, 41, 42, 43, 48, 49, 58] → Dm2 b = Dm b := fun b hb => (r2 b (nsub hb (by decide))).trans (b2.1 b (nin hb (by decide)))
  have ms2 : ∀ i, 0 ≤ i → i < 80 → i ≠ K → MS Dm Dm2 i := fun i _ _ e => ⟨fun a z => by
      by_cases q : a = 50
      · subst q; exact R_cg (f2 50 (by decide)) i
      · rw [r6 a (by simp only [List.mem_cons, List.not_mem_nil, or_false] at z ⊢; omega) i e]
        exact R_cg (b2.1 a (by simp only [List.mem_cons, List.not_mem_nil, or_false] at z; omega)) i,
    fun a z j _ _ => R_cg (f2 a (by simp only [List.mem_cons, List.not_mem_nil, or_false] at z ⊢; omega)) _, fun a z j _ _ => R_cg (f2 a (by simp only [List.mem_cons, List.not_mem_nil, or_false] at z ⊢; omega)) _⟩
  have e35 : Dm1 35 = Dm 35 := b2.1 35 (by decide)
  -- the key comes
  obtain ⟨Dc1, c1, c2, c3, c4, c5⟩ := h.1.newkey (Dm' := Dm2) (p := g 0) (nm := x) (pa := k) (ta := ta) (ri := ri) hKr (by omega) hTK g3 hx hrb hta (f2 33 (by decide)) (f2 34 (by decide)) (by rw [r3, e35, hKr]) ms2 r7 r8 r9 r10 r11 r12 r13 r14
  -- one more has its rights
  obtain ⟨Dc2, d1, d2, d3⟩ := c4.count (r := ri) (b := 1) (by omega) hhas.1 (by omega)
  have sup : ∀ i, 1 ≤ uI (Rz 768 57 Dm) ri (Rz 768 57 Dm ri + 1) i → 1 ≤ Rz 768 57 Dm i := fun i z => by
    unfold uI at z
    by_cases q : i = ri
    · rw [q]; exact hhas.1
    · rw [if_neg q] at z; exact z
  have gts : ∀ i, 1 ≤ i → i < c → Gt (fun j => th Dm j ∨ j = K) (Rz 768 56 Dm) (uI (Rz 768 57 Dm) ri (Rz 768 57 Dm ri + 1)) Dc2 Dm2 i (g i) (w i) := fun i x1 x2 => by
    obtain ⟨y1, y2, y3, y4⟩ := hg i (by omega) x2
    have z := c5 _ _ y3 (fun e => hgn 0 i (Int.le_refl _) (by omega) x2 e.symm)
    exact ⟨by rw [R_cg (d2.1 9 (by decide) (by decide)), R_cg (c2 9 (by decide))]; exact y1, by rw [R_cg (f2 66 (by decide))]; exact y2, z.sup sup (d2.1 3 (by decide) (by decide))⟩
  -- the leaf is the same
  have hmc : mc Dm2 = mc Dm := by funext a b; exact R_cg (f2 45 (by decide)) _
  have hme : me Dm2 = me Dm := by funext a b; exact R_cg (f2 46 (by decide)) _
  have hmn : mn_ Dm2 = mn_ Dm := by funext a b; exact R_cg (f2 47 (by decide)) _
  have hmE : mE Dm2 = mE Dm := by funext a b; unfold mE; rw [hme, hmn]
  have e42 : Rz 240 42 Dm2 k = n := by rw [(ms2 k hk.1 hk.2 (by omega)).1 42 (by decide), hn]
  have hW0 := hkr.2.2.2.2.2.1
  have hW2 := hW0.cong (ms2 k hk.1 hk.2 (by omega))
  obtain ⟨L0, s1, s2, s3⟩ := spot_L hk hW0 hx hnew
  obtain ⟨L2, t1, t2, t3⟩ := spot_L (Dm := Dm2) hk hW2 hx (by rw [hmc, hmn, e42, ← hn]; exact hnew)
  have eL := leafFor_det s1 hlf
  subst eL
  have e2 := t3 K (by omega) hK
  rw [hmc, hmE, e42, ← hn] at e2
  have eL2 := e2.uniq (s3 K (by omega) hK)
  subst eL2
  obtain ⟨N, hN⟩ : ∃ N, sm (mc Dm k) n = N := ⟨_, rfl⟩
  have e39 : Rz 240 39 Dm2 k = -1 := by rw [(ms2 k hk.1 hk.2 (by omega)).1 39 (by decide), hnl]
  have e40 : Rz 240 40 Dm2 k = Rz 240 40 Dm k := (ms2 k hk.1 hk.2 (by omega)).1 40 (by decide)
  have hE2 : ∃ nl ix', ((n = 0 ∧ Gt (fun j => th Dm j ∨ j = K) (Rz 768 56 Dm) (uI (Rz 768 57 Dm) ri (Rz 768 57 Dm ri + 1)) Dc2 Dm2 1 nl 5) ∨ (1 ≤ n ∧ mc Dm2 k L2 < 4) ∨ (n = 1 ∧ mc Dm2 k L2 = 4 ∧ Gt (fun j => th Dm j ∨ j = K) (Rz 768 56 Dm) (uI (Rz 768 57 Dm) ri (Rz 768 57 Dm ri + 1)) Dc2 Dm2 1 ix' 9 ∧ Gt (fun j => th Dm j ∨ j = K) (Rz 768 56 Dm) (uI (Rz 768 57 Dm) ri (Rz 768 57 Dm ri + 1)) Dc2 Dm2 (1 + 1) nl 5 ∧ ix' ≠ nl) ∨
      (2 ≤ n ∧ n < 8 ∧ mc Dm2 k L2 = 4 ∧ ix' = Rz 240 43 Dm2 k ∧ Gt (fun j => th Dm j ∨ j = K) (Rz 768 56 Dm) (uI (Rz 768 57 Dm) ri (Rz 768 57 Dm ri + 1)) Dc2 Dm2 1 nl 5)) ∧ (n = 0 → nl = g 1) := by
    rw [hmc]
    rcases hE with ⟨z1, z2, z3⟩ | z | ⟨z1, z2, z3, z4, z5⟩ | ⟨z1, z2, z3, z4, z5⟩
    · have y := gts 1 (by omega) z2
      rw [z3] at y
      exact ⟨g 1, 0, Or.inl ⟨z1, y⟩, fun _ => rfl⟩
    · exact ⟨0, 0, Or.inr (Or.inl z), fun q => by omega⟩
    · have y := gts 1 (by omega) (by omega)
      have y2 := gts 2 (by omega) z3
      rw [z4] at y
      rw [z5] at y2
      exact ⟨g 2, g 1, Or.inr (Or.inr (Or.inl ⟨z1, z2, y, y2, hgn 1 2 (by omega) (by omega) z3⟩)), fun q => by omega⟩
    · have y := gts 1 (by omega) z4
      rw [z5] at y
      exact ⟨g 1, _, Or.inr (Or.inr (Or.inr ⟨z1, z2, z3, rfl, y⟩)), fun q => by omega⟩
  obtain ⟨nl, ix', hE2, hnl0⟩ := hE2
  obtain ⟨Dc3, Dm3, P, n', t, m1, m2, m3, m4, m5, m6, m7, m8, m9, m10⟩ := d3.enter (k := k) (x := x) (y := K) (fr := 1) (n := n) (N := N) hk (Or.inl ht) e39 e42 (by rw [hmc]; exact hN) hx (by omega) (by rw [hmn, ← hN, ← hn]; exact hnew) (by omega) t1 hE2
  -- its count, in the reference
  have f3 : ∀ b, b ∉ [42, 43, 44, 45, 46, 47, 58] → Dm3 b = Dm2 b := m6.1
  have e41 : Rz 240 41 Dm3 k = ri := by rw [R_cg (f3 41 (by decide)), (ms2 k hk.1 hk.2 (by omega)).1 41 (by decide), hri]
  have e56 : Rz 768 56 Dm3 = Rz 768 56 Dm := Rz_fn ((f3 56 (by decide)).trans (f2 56 (by decide)))
  have e57 : Rz 768 57 Dm3 = Rz 768 57 Dm := Rz_fn ((f3 57 (by decide)).trans (f2 57 (by decide)))
  have ls : Rz 1024 3 Dc3 (Rz 768 56 Dm ri) = 2 := (m3.lb (Or.inr ⟨rfl, hrb.1, by omega, by unfold uI; rw [if_pos rfl]; omega, rfl, rfl⟩)).1
  have lt := m3.1.1.1 (Rz 768 56 Dm ri) (by omega)
  have lsc := m3.1.2.1
  obtain ⟨Dm4, q1, q2⟩ := count_m (Dm := Dm3) (r := ri) (b := Rz 768 57 Dm ri + 1) (p := Rz 768 56 Dm ri) (by omega) (by rw [e56]) (by rw [m3.1.2.2.2 _ (by omega) (by omega)]; exact ls) (by omega)
  have f4 : ∀ b, b ∉ [57, 58] → Dm4 b = Dm3 b := fun b hb => (q2.1 b (nin hb (by decide))).trans (T_ot (nin hb (by decide)))
  have g57 : Rz 768 57 Dm4 = uI (Rz 768 57 Dm) ri (Rz 768 57 Dm ri + 1) := by
    funext i
    rw [R_cg (q2.1 57 (by decide)), R_T, e57]
    unfold uI
    by_cases q : i = ri
    · rw [if_pos ⟨by omega, q⟩, if_pos q]
    · rw [if_neg (fun z => q z.2), if_neg q]
  have g36 : ∀ i, Rz 240 36 Dm4 i = if i = K then 1 else Rz 240 36 Dm i := fun i => by
    rw [R_cg (f4 36 (by decide)), R_cg (f3 36 (by decide)), r5, R_cg (b2.1 36 (by decide))]
  have gth : th Dm4 = fun j => th Dm j ∨ j = K := by
    funext i
    unfold th
    rw [g36 i]
    by_cases q : i = K
    · rw [if_pos q]
      exact propext ⟨fun _ => Or.inr q, fun _ => rfl⟩
    · rw [if_neg q]
      exact propext ⟨fun z => Or.inl z, fun z => z.resolve_right q⟩
  have ms4 : ∀ i, 0 ≤ i → i < 80 → i ≠ K → i ≠ k → MS Dm Dm4 i := fun i x1 x2 x3 x4 => ((ms2 i x1 x2 x3).trans (m6.ms x4)).trans (MS.eqv (fun b y1 y2 => f4 b (by simp only [List.mem_cons, List.not_mem_nil, or_false]; omega)) i)
  have o4 : ∀ a, a ∈ [37, 38, 39, 40, 41, 48, 49] → ∀ i, Rz 240 a Dm4 i = Rz 240 a Dm2 i := fun a ha i => by
    rw [R_cg (f4 a (by simp only [List.mem_cons, List.not_mem_nil, or_false] at ha ⊢; omega)), R_cg (f3 a (by simp only [List.mem_cons, List.not_mem_nil, or_false] at ha ⊢; omega))]
  have emc4 : mc Dm4 = mc Dm3 := by funext a b; exact R_cg (f4 45 (by decide)) _
  have eme4 : me Dm4 = me Dm3 := by funext a b; exact R_cg (f4 46 (by decide)) _
  have emn4 : mn_ Dm4 = mn_ Dm3 := by funext a b; exact R_cg (f4 47 (by decide)) _
  have hTr : Tr Dc3 Dm4 := by
    refine ⟨?_, h.2.make (K := K) (k := k) (x := x) (t := t) (N := N) (fun i x1 x2 x3 => (St.kr h ⟨x1, x2⟩ x3).2.2.2.2.2.1) hKr hK hTK hk ht ?_ (fun i _ _ => g36 i) ms4 (fun a z => ?_) ?_ ?_ ?_ ?_ ?_ ?_ m9 (fun j x1 x2 => ?_) (fun r x1 x2 => ?_)⟩
    · rw [gth, show Rz 768 56 Dm4 = Rz 768 56 Dm from (Rz_fn (f4 56 (by decide))).trans e56, g57]
      exact m3.eqv rfl rfl rfl rfl rfl (fun b y1 y2 => f4 b (by simp only [List.mem_cons, List.not_mem_nil, or_false]; omega))
    · rw [f4 35 (by decide), f3 35 (by decide), r3, e35, hKr]
    · rw [o4 a (by simp only [List.mem_cons, List.not_mem_nil, or_false] at z ⊢; omega)]
      exact (ms2 k hk.1 hk.2 (by omega)).1 a (by simp only [List.mem_cons, List.not_mem_nil, or_false] at z ⊢; omega)
    · rw [o4 37 (by decide), r7]
    · rw [o4 38 (by decide), r8]
    · rw [o4 41 (by decide), r11, hri]
    · rw [R_cg (f4 42 (by decide)), (m6.2.2.1 K (by omega)).1, r12]
    · rw [hn]; exact hN
    · rw [emc4, R_cg (f4 42 (by decide)), m7]; exact m8
    · rw [eme4, emn4, ← hme, ← hmn]
      exact m10 j x1 x2
    · rw [g57, hri]
      unfold uI
      by_cases q : r = ri
      · rw [if_pos q, if_pos q.symm, q]
      · rw [if_neg q, if_neg (fun z => q z.symm), Int.add_zero]
  have hDy3 : Dy Dc3 Dm4 := fun s x1 x2 => by
    have a1 : bit (Dc1 7 5) s = bit (Dc 7 5) s := by rw [c2 7 (by decide)]
    have a2 : Rz 64 58 Dm2 s = Rz 64 58 Dm1 s := R_cg (r2 58 (by decide)) s
    have a3 : Rz 64 58 (Tz 768 57 Dm3 ri (Rz 768 57 Dm ri + 1)) s = Rz 64 58 Dm3 s := R_T_ot (by decide)
    rw [m4.2.2 s x1 x2, d2.2.2 s x1 x2, a1, hDy s x1 x2, q2.2 s x1 x2, a3, m5 s x1 x2, a2, b2.2 s x1 x2]
    have a4 : n = 0 ∧ sec nl 5 s → ∃ i, 0 ≤ i ∧ i < c ∧ sec (g i) (w i) s := fun z => by
      have := hnl0 z.1
      rcases hE with ⟨y1, y2, y3⟩ | ⟨y1, y2⟩ | ⟨y1, y2⟩ | ⟨y1, y2⟩
      · exact ⟨1, by omega, y2, by rw [y3, ← this]; exact z.2⟩
      · omega
      · omega
      · omega
    constructor
    · rintro (((z | z) | z) | z)
      · exact Or.inl (Or.inl (Or.inl z))
      · exact Or.inl (Or.inl (Or.inr z))
      · exact Or.inr z
      · exact Or.inl (Or.inr (Or.inl z))
    · rintro (((z | z) | (z | z)) | z)
      · exact Or.inl (Or.inl (Or.inl z))
      · exact Or.inl (Or.inl (Or.inr z))
      · exact Or.inr z
      · exact Or.inl (Or.inl (Or.inr (a4 z)))
      · exact Or.inl (Or.inr z)
  have oc3 : ∀ b, b ∉ [2, 4, 5, 7] → Dc3 b = Dc b := fun b hb => by
    rw [m4.1 b (nin hb (by decide)) (nin hb (by decide)), d2.1 b (nin hb (by decide)) (nin hb (by decide)), c2 b (nsub hb (by decide))]
  have om4 : ∀ b, b ∉ [35, 36, 37, 38, 39, 40, 41, 42, 43, 44, 45, 46, 47, 48, 49, 57, 58] → Dm4 b = Dm b := fun b hb => by
    rw [f4 b (nsub hb (by decide)), f3 b (nsub hb (by decide)), f2 b (nsub hb (by decide))]
  have hhi : HiEq Dm Dm4 := (((HiEq.ot (fun b y1 y2 => b2.1 b (by omega))).trans r4).trans m6.2.1).trans ((HiEq.T (n := 768) (a := 57) (m := 256) (by decide) (by omega)).trans (HiEq.ot (fun b y1 y2 => q2.1 b (by omega))))
  have hW4 : Wt Dc3 Dm4 m := hW.cong (oc3 16 (by decide)) (oc3 17 (by decide)) (oc3 18 (by decide)) (oc3 19 (by decide)) (by rw [oc3 15 (by decide)]) (om4 59 (by decide)) (om4 60 (by decide)) (om4 61 (by decide)) (om4 62 (by decide)) (om4 63 (by decide)) (by rw [om4 32 (by decide)])
  obtain ⟨Dc5, Dm5, v1, v2, v3, v4, v5, v6, v7, v8, -⟩ := told_both hTr hDy3 hW4 (by omega) hk (by rw [gth]; exact Or.inl ht) (x := 1) (by omega)
  refine ⟨Dc5, Dm5, ?_, ?_, v3, v4, v5, fun b hb => (v6 b hb).trans (oc3 b (by simp only [List.mem_cons, List.not_mem_nil, or_false]; omega)), (show Om Dm Dm4 from ⟨fun b hb => om4 b (by simp only [List.mem_cons, List.not_mem_nil, or_false]; omega), fun j _ _ => by rw [om4 32 (by decide)], hhi⟩).trans v7, by rw [v8, om4 32 (by decide)]⟩
  · simp only [gD]
    rw [e40] at m1
    rw [c1, d1, bnd_ok, m1, bnd_ok, v1, bnd_ok]
  · unfold pM_makes
    simp only [ltR]
    rw [hKr, b1, bnd_ok, r1 (fun D12 => bnd (pM_enters k K x 1 D12) fun _ D13 => rdA 240 41 k D13 fun v2 => rdA 768 57 v2 D13 fun v3 => wrA 768 57 v2 (v3 + 1) D13 fun D14 => rdA 240 41 k D14 fun v4 => rdA 768 56 v4 D14 fun v5 => bnd (pM_writes v5 D14) fun _ D15 => bnd (pM_changes k 1 D15) fun _ D16 => okR K D16), m2, bnd_ok, rdA_R (by omega), e41, rdA_R (by omega), e57, wrA_T (by omega), rdA_R (by omega), R_T_ot (by decide), e41, rdA_R (by omega), q1, bnd_ok, v2, bnd_ok]
end MAKES
