/-! rename -/
section RENAME
variable {Dc Dm : DD} {m : Int}
theorem renames_both {c x nm k n L q : Int} {g w : Int → Int} (h : Tr Dc Dm) (hc : 1 ≤ c ∧ c < 80) (htc : th Dm c) (hx : 0 ≤ x ∧ x ≤ 9999) (hkc : Rz 240 37 Dm c = k) (hnm : Rz 240 38 Dm c = nm)
    (hnew : ∀ j, 0 ≤ j → j < sm (mc Dm k) (Rz 240 42 Dm k) → mn_ Dm k j ≠ x) (hn : Rz 240 42 Dm k = n) (hlf : pM_leafFor k x Dm = okR L Dm) (hq : 0 ≤ q ∧ q ≤ 6) (h37 : Dm 32 37 = q)
    (hg : ∀ i, 0 ≤ i → i < q → Rz 6 9 Dc i = g i ∧ Rz 8 66 Dm i = g i ∧ Fs (th Dm) (Rz 768 56 Dm) (Rz 768 57 Dm) Dc Dm (g i) (w i) ∧ (4 ≤ g i ∧ g i + w i ≤ 1024)) (hgn : ∀ i j, 0 ≤ i → i < j → j < q → g i ≠ g j)
    (hE : (1 ≤ n ∧ mc Dm k L < 4) ∨ (n = 1 ∧ mc Dm k L = 4 ∧ 1 < q ∧ w 0 = 9 ∧ w 1 = 5) ∨ (2 ≤ n ∧ n < 8 ∧ mc Dm k L = 4 ∧ 0 < q ∧ w 0 = 5))
    (hDy : ∀ t, 0 ≤ t → t < 64 → (bit (Dc 7 5) t = true ↔ w32 (Rz 64 58 Dm t) ≠ 0 ∨ ∃ i, 0 ≤ i ∧ i < q ∧ sec (g i) (w i) t)) (hW : Wt Dc Dm m) (hm : m ≤ 700000) :
    ∃ Dc' Dm', (bnd (pL_putIn (Rz 240 40 Dm k) (rk x * 80 + c) 0 Dc) fun _ D10 => bnd (pL_takeOut (Rz 240 40 Dm k) (rk nm * 80 + c) D10) fun v3 D11 => gD (pI_putUnit (Rz 240 40 Dm c + 0) x D11) fun D12 => bnd (pC_markWritten (Rz 240 40 Dm c) D12) fun _ D13 => bnd (pH_tellUpwards k 1 D13) fun _ D14 => okR nm D14) = okR nm Dc' ∧
      (rdA 240 38 c Dm fun v3 => bnd (pM_writesGot Dm) fun _ D4 => rdA 240 37 c D4 fun v4 => bnd (pM_enters v4 c x 0 D4) fun _ D5 => rdA 240 37 c D5 fun v5 => bnd (pM_goes v5 v3 D5) fun _ D6 => wrA 240 38 c x D6 fun D7 => rdA 240 40 c D7 fun v6 => bnd (pM_writes v6 D7) fun _ D8 => rdA 240 37 c D8 fun v7 => bnd (pM_changes v7 1 D8) fun _ D9 => okR v3 D9) = okR nm Dm' ∧
      Tr Dc' Dm' ∧ Dy Dc' Dm' ∧ Wt Dc' Dm' (m + 80) ∧ Oc Dc Dc' ∧ Om Dm Dm' ∧ Dm' 32 42 = Dm 32 42 := by
  obtain ⟨a1, a2, a3⟩ := h.2.2.2.2.1 c hc.1 hc.2 htc
  rw [hkc] at a1 a2 a3
  obtain ⟨j0, b1, b2, b3⟩ := a3
  have htk : th Dm k := a2
  have hk : 0 ≤ k ∧ k < 80 := by omega
  obtain ⟨c1, c2, c3⟩ := h.2.2.2.2.2.1 k j0 hk.1 hk.2 a2 b1 b2
  rw [b3, hnm] at c3
  have hkr := St.kr h hk htk
  have hkrc := St.kr h ⟨by omega, hc.2⟩ htc
  obtain ⟨p1, p2, p3⟩ := h.place hk htk
  obtain ⟨pc1, pc2, pc3⟩ := h.place ⟨by omega, hc.2⟩ htc
  have hT := h.1.1.1
  have hsc := h.1.1.2.1
  have hW0 := hkr.2.2.2.2.2.1
  have n1 : 1 ≤ n := by
    have := hW0.1.1
    by_cases z : n = 0
    · rw [hn, z, sm_0] at b2
      omega
    · omega
  have hnb := hkrc.2.2.2.1.1
  rw [hnm] at hnb
  have h39 : Rz 240 39 Dm k = -1 := by
    rcases hkr.2.2.2.1.2.2.1 with z | z
    · exact z
    · omega
  -- names differ, so the entry of c is one alone
  have one : ∀ i, 0 ≤ i → i < sm (mc Dm k) (Rz 240 42 Dm k) → i ≠ j0 → me Dm k i ≠ c := fun i y1 y2 y3 y4 => by
    have := (h.2.2.2.2.2.1 k i hk.1 hk.2 a2 y1 y2).2.2
    rw [y4, hnm] at this
    by_cases z : i < j0
    · have := hW0.2.2.2 i j0 y1 z b2
      rw [← c3, ‹nm = mn_ Dm k i›] at this
      omega
    · have := hW0.2.2.2 j0 i b1 (by omega) y2
      rw [← c3, ‹nm = mn_ Dm k i›] at this
      omega
  obtain ⟨N, hN⟩ : ∃ N, sm (mc Dm k) n = N := ⟨_, rfl⟩
  have hN' : sm (mc Dm k) (Rz 240 42 Dm k) = N := by rw [hn]; exact hN
  rw [hN'] at b2 one hnew
  -- the reference: marks
  obtain ⟨Dm1, r1, r2⟩ := writesGot_m (g := g) (w := w) (D := Dm) hq h37 (fun i x1 x2 => by
    obtain ⟨y1, y2, y3, y4⟩ := hg i x1 x2
    exact ⟨y2, by rw [h.1.1.2.2.2 _ (by omega) (by have := y3.2.1; omega)]; exact y3.1, y3.2.1, by omega, y4.2⟩)
  have f1 : ∀ b, b ≠ 58 → Dm1 b = Dm b := r2.1
  have hmc : mc Dm1 = mc Dm := by funext a b; exact R_cg (f1 45 (by decide)) _
  have hme : me Dm1 = me Dm := by funext a b; exact R_cg (f1 46 (by decide)) _
  have hmn : mn_ Dm1 = mn_ Dm := by funext a b; exact R_cg (f1 47 (by decide)) _
  have e42 : Rz 240 42 Dm1 = Rz 240 42 Dm := Rz_fn (f1 42 (by decide))
  have e43 : Rz 240 43 Dm1 = Rz 240 43 Dm := Rz_fn (f1 43 (by decide))
  have e40 : Rz 240 40 Dm1 = Rz 240 40 Dm := Rz_fn (f1 40 (by decide))
  have h1 : T0 (th Dm) (Rz 768 56 Dm) (Rz 768 57 Dm) Dc Dm1 := h.1.eqv rfl rfl rfl rfl rfl (fun b _ _ => f1 b (by omega))
  have gts : ∀ i, 0 ≤ i → i < q → Gt (th Dm) (Rz 768 56 Dm) (Rz 768 57 Dm) Dc Dm1 i (g i) (w i) := fun i x1 x2 => by
    obtain ⟨y1, y2, y3, y4⟩ := hg i x1 x2
    exact ⟨y1, by rw [R_cg (f1 66 (by decide))]; exact y2, y3.eqv rfl (fun b _ _ => f1 b (by omega))⟩
  have l1 := leafFor_eqv (D' := Dm1) hk hW0 hx (by rw [hN']; exact hnew) (fun b hb => f1 b (by simp only [List.mem_cons, List.not_mem_nil, or_false] at hb; omega)) hlf
  have hE2 : ∃ nl ix', ((n = 0 ∧ Gt (th Dm) (Rz 768 56 Dm) (Rz 768 57 Dm) Dc Dm1 0 nl 5) ∨ (1 ≤ n ∧ mc Dm1 k L < 4) ∨ (n = 1 ∧ mc Dm1 k L = 4 ∧ Gt (th Dm) (Rz 768 56 Dm) (Rz 768 57 Dm) Dc Dm1 0 ix' 9 ∧ Gt (th Dm) (Rz 768 56 Dm) (Rz 768 57 Dm) Dc Dm1 (0 + 1) nl 5 ∧ ix' ≠ nl) ∨
      (2 ≤ n ∧ n < 8 ∧ mc Dm1 k L = 4 ∧ ix' = Rz 240 43 Dm1 k ∧ Gt (th Dm) (Rz 768 56 Dm) (Rz 768 57 Dm) Dc Dm1 0 nl 5)) := by
    rw [hmc]
    rcases hE with z | ⟨z1, z2, z3, z4, z5⟩ | ⟨z1, z2, z3, z4, z5⟩
    · exact ⟨0, 0, Or.inr (Or.inl z)⟩
    · have y := gts 0 (by omega) (by omega)
      have y2 := gts 1 (by omega) z3
      rw [z4] at y
      rw [z5] at y2
      exact ⟨g 1, g 0, Or.inr (Or.inr (Or.inl ⟨z1, z2, y, y2, hgn 0 1 (by omega) (by omega) z3⟩))⟩
    · have y := gts 0 (by omega) z4
      rw [z5] at y
      exact ⟨g 0, _, Or.inr (Or.inr (Or.inr ⟨z1, z2, z3, rfl, y⟩))⟩
  obtain ⟨nl, ix', hE2⟩ := hE2
  obtain ⟨Dc2, Dm2, P, n', t, m1, m2, m3, m4, m5, m6, m7, m8, m9, m10⟩ := h1.enter (k := k) (x := x) (y := c) (fr := 0) (n := n) (N := N) hk htk (by rw [R_cg (f1 39 (by decide))]; exact h39) (by rw [e42]; exact hn) (by rw [hmc]; exact hN) hx ⟨by omega, hc.2⟩ (by rw [hmn]; exact hnew) (by omega) l1 hE2
  rw [e40] at m1
  have f2 : ∀ b, b ∉ [42, 43, 44, 45, 46, 47, 58] → Dm2 b = Dm b := fun b hb => (m6.1 b hb).trans (f1 b (nin hb (by decide)))
  -- the old entry goes
  obtain ⟨t', ht'⟩ : ∃ t', t' = if j0 < t then j0 else j0 + 1 := ⟨_, rfl⟩
  have tb : 0 ≤ t' ∧ t' ≤ N := by
    rw [ht']
    split <;> omega
  obtain ⟨w1, w2⟩ := m10 t' tb.1 tb.2
  rw [ren_d ht', hme, b3] at w1
  rw [ren_d ht', hmn, ← c3] at w2
  obtain ⟨Dc3, Dm3, P3, v, n3, s1, s2, s3, s4, s5, s6, s7, s8, s9, s10, s11, s12⟩ := m3.goes (k := k) (x := nm) (n := n') (N := N + 1) (t := t') hk htk m7 m8 ⟨tb.1, by omega⟩ w2
  rw [show Rz 240 40 Dm2 k = Rz 240 40 Dm k from R_cg (f2 40 (by decide)) k, show mE Dm2 k t' = rk nm * 80 + c by unfold mE; rw [w1, w2]] at s1
  have f3 : ∀ b, b ∉ [32, 33, 42, 43, 44, 45, 46, 47, 58] → Dm3 b = Dm b := fun b hb => (s8.1 b hb).trans (f2 b (nsub hb (by decide)))
  -- the name
  obtain ⟨pc, hpc⟩ : ∃ pc, Rz 240 40 Dm c = pc := ⟨_, rfl⟩
  rw [hpc] at pc1 pc2 pc3
  have e40c : Rz 240 40 Dm3 c = pc := by rw [R_cg (f3 40 (by decide))]; exact hpc
  have kc3 := (s3.2.2.2.1 c (by omega) hc.2 htc).2.1
  rw [e40c] at kc3
  obtain ⟨Dc5, y1, y2⟩ := mark_class (D := Tz 1024 4 Dc3 pc x) (p := pc) (n := 6) (by rw [R_T_ot (by decide)]; exact kc3) (by decide) (by omega) pc3
  obtain ⟨Dm5, z1, z2⟩ := mark_model (D := Tz 240 38 Dm3 c x) (p := pc) (n := 6) (by rw [R_T_ot (by decide), s3.1.2.2.2 _ (by omega) (by omega)]; exact kc3) (by decide) (by omega) pc3
  have g5 : ∀ b, b ∉ [38, 58] → Dm5 b = Dm3 b := fun b hb => (z2.1 b (nin hb (by decide))).trans (T_ot (nin hb (by decide)))
  have o5 : ∀ b, b ∉ [4, 7] → Dc5 b = Dc3 b := fun b hb => (y2.1 b (nin hb (by decide))).trans (T_ot (nin hb (by decide)))
  have n38 : ∀ i, Rz 240 38 Dm5 i = if i = c then x else Rz 240 38 Dm i := fun i => by
    rw [R_cg (z2.1 38 (by decide)), R_T, R_cg (f3 38 (by decide))]
    by_cases e : i = c
    · rw [if_pos ⟨by omega, e⟩, if_pos e]
    · rw [if_neg (fun u => e u.2), if_neg e]
  have un5 : ∀ u, Rz 1024 4 Dc5 u = if u = pc then x else Rz 1024 4 Dc3 u := fun u => by
    rw [R_cg (y2.1 4 (by decide)), R_T]
    by_cases e : u = pc
    · rw [if_pos ⟨by omega, e⟩, if_pos e]
    · rw [if_neg (fun u => e u.2), if_neg e]
  have kc := s3.2.2.2.1 c (by omega) hc.2 htc
  have e56 : Rz 768 56 Dm5 = Rz 768 56 Dm := Rz_fn ((g5 56 (by decide)).trans (f3 56 (by decide)))
  have e57 : Rz 768 57 Dm5 = Rz 768 57 Dm := Rz_fn ((g5 57 (by decide)).trans (f3 57 (by decide)))
  have eth : th Dm5 = th Dm := th_fn ((g5 36 (by decide)).trans (f3 36 (by decide)))
  have hT5 : T0 (th Dm5) (Rz 768 56 Dm5) (Rz 768 57 Dm5) Dc5 Dm5 := by
    rw [eth, e56, e57]
    refine s3.cell (K := c) (p := pc) ⟨by omega, hc.2⟩ htc (o5 2 (by decide)) (o5 3 (by decide)) (o5 5 (by decide)) (o5 6 (by decide)) (fun b u1 u2 u3 u4 => g5 b (by simp only [List.mem_cons, List.not_mem_nil, or_false]; omega)) (fun i e => ⟨by rw [n38, if_neg e, R_cg (f3 38 (by decide))], R_cg (g5 41 (by decide)) i⟩) e40c (fun u e1 e2 => by rw [un5, if_neg e1]) ?_ ?_ ?_ ?_
    · rw [un5, if_pos rfl, n38, if_pos rfl]
    · rw [un5, if_neg (by omega), R_cg (g5 41 (by decide)), ← e40c]
      exact kc.2.2.1.2.2.1
    · rw [n38, if_pos rfl]; exact hx
    · rw [R_cg (g5 41 (by decide))]
      exact kc.2.2.2.1.2.1
  have hms : ∀ i, 0 ≤ i → i < 80 → i ≠ k → MS Dm Dm3 i := fun i _ _ e => ((MS.eqv (Dm := Dm) (Dm' := Dm1) (fun b u1 u2 => f1 b (by omega)) i).trans (m6.ms e)).trans (s8.ms e)
  have emc5 : mc Dm5 = mc Dm3 := by funext a b; exact R_cg (g5 45 (by decide)) _
  have eme5 : me Dm5 = me Dm3 := by funext a b; exact R_cg (g5 46 (by decide)) _
  have emn5 : mn_ Dm5 = mn_ Dm3 := by funext a b; exact R_cg (g5 47 (by decide)) _
  have e425 : Rz 240 42 Dm5 = Rz 240 42 Dm3 := Rz_fn (g5 42 (by decide))
  have sN : sm (mc Dm5 k) (Rz 240 42 Dm5 k) = N := by rw [emc5, e425, s10, s11]; omega
  have lst : ∀ j, 0 ≤ j → j < N → me Dm5 k j = delF (insF (me Dm k) t c) t' j ∧ mn_ Dm5 k j = delF (insF (mn_ Dm k) t x) t' j := fun j u1 u2 => by
    obtain ⟨d1, d2⟩ := s12 j u1 (by omega)
    rw [eme5, emn5, d1, d2]
    unfold delF
    by_cases e : j < t'
    · rw [if_pos e, if_pos e, if_pos e, if_pos e, ← hme, ← hmn]
      exact m10 j u1 (by omega)
    · rw [if_neg e, if_neg e, if_neg e, if_neg e, ← hme, ← hmn]
      exact m10 (j + 1) (by omega) (by omega)
  have hMT : MT Dm5 := by
    refine h.2.rename (c := c) (k := k) (x := x) (fun i u1 u2 u3 => (St.kr h ⟨u1, u2⟩ u3).2.2.2.2.2.1) hc htc hkc (fun b hb => ?_) (fun i _ _ => n38 i) (fun i u1 u2 u3 u4 => ?_) (fun j u1 u2 => ?_) (fun i u1 u2 => ?_)
    · rw [g5 b (by simp only [List.mem_cons, List.not_mem_nil, or_false] at hb ⊢; omega), f3 b (by simp only [List.mem_cons, List.not_mem_nil, or_false] at hb ⊢; omega)]
    · rw [emc5, eme5, emn5, e425]
      exact (hms i u1 u2 u4).list (St.kr h ⟨u1, u2⟩ u3).2.2.2.2.2.1
    · rw [sN] at u2
      obtain ⟨d1, d2⟩ := lst j u1 u2
      rcases ren_a ⟨b1, b2⟩ m9 ht' j u1 u2 with e | ⟨i, e1, e2, e3, e4⟩
      · exact Or.inl ⟨by rw [d1, e], by rw [d2, e]⟩
      · exact Or.inr ⟨i, e1, by rw [hN']; exact e2, one i e1 e2 e3, by rw [d1, e4], by rw [d2, e4]⟩
    · rw [hN'] at u2
      rw [sN]
      by_cases e : i = j0
      · obtain ⟨j, d1, d2, d3⟩ := ren_b ⟨b1, b2⟩ m9 ht'
        exact ⟨j, d1, d2, by rw [(lst j d1 d2).1, d3, e, b3]⟩
      · obtain ⟨j, d1, d2, d3⟩ := ren_c ⟨b1, b2⟩ m9 ht' i u1 u2 e
        exact ⟨j, d1, d2, by rw [(lst j d1 d2).1, d3]⟩
  have hDy5 : Dy Dc5 Dm5 := fun s u1 u2 => by
    have d1 : bit (Tz 1024 4 Dc3 pc x 7 5) s = bit (Dc3 7 5) s := by rw [T_ot (by decide)]
    have d2 : Rz 64 58 (Tz 240 38 Dm3 c x) s = Rz 64 58 Dm3 s := R_T_ot (by decide)
    rw [y2.2.2 s u1 u2, d1, s6 s u1 u2, m4.2.2 s u1 u2, hDy s u1 u2, z2.2 s u1 u2, d2, s7 s u1 u2, m5 s u1 u2, r2.2 s u1 u2]
    constructor
    · rintro (((z | z) | z) | z)
      · exact Or.inl (Or.inl (Or.inl z))
      · exact Or.inl (Or.inl (Or.inr (Or.inl z)))
      · exact Or.inl (Or.inr z)
      · exact Or.inr z
    · rintro (((z | (z | z)) | z) | z)
      · exact Or.inl (Or.inl (Or.inl z))
      · exact Or.inl (Or.inl (Or.inr z))
      · omega
      · exact Or.inl (Or.inr z)
      · exact Or.inr z
  have oc : ∀ b, b ∉ [3, 4, 7] → Dc5 b = Dc b := fun b hb => by
    rw [o5 b (nsub hb (by decide)), s4 b hb, m4.1 b (nin hb (by decide)) (nin hb (by decide))]
  have om : ∀ b, b ∉ [32, 33, 38, 42, 43, 44, 45, 46, 47, 58] → Dm5 b = Dm b := fun b hb => by
    rw [g5 b (nsub hb (by decide)), f3 b (nsub hb (by decide))]
  have o32 : ∀ j, j ≠ 41 → Dm5 32 j = Dm 32 j := fun j hj => by
    rw [g5 32 (by decide), s8.2.1 j hj, f2 32 (by decide)]
  have hhi : HiEq Dm Dm5 := (((HiEq.ot (fun b u1 u2 => f1 b (by omega))).trans m6.2.1).trans s8.2.2.1).trans ((HiEq.T (n := 240) (a := 38) (m := 80) (by decide) (by omega)).trans (HiEq.ot (fun b u1 u2 => z2.1 b (by omega))))
  have hW5 : Wt Dc5 Dm5 m := hW.cong (oc 16 (by decide)) (oc 17 (by decide)) (oc 18 (by decide)) (oc 19 (by decide)) (by rw [oc 15 (by decide)]) (om 59 (by decide)) (om 60 (by decide)) (om 61 (by decide)) (om 62 (by decide)) (om 63 (by decide)) (o32 29 (by decide))
  obtain ⟨Dc6, Dm6, v1, v2, v3, v4, v5, v6, v7, v8, -⟩ := told_both ⟨hT5, hMT⟩ hDy5 hW5 (by omega) hk (by rw [eth]; exact htk) (x := 1) (by omega)
  refine ⟨Dc6, Dm6, ?_, ?_, v3, v4, v5, fun b hb => (v6 b hb).trans (oc b (by simp only [List.mem_cons, List.not_mem_nil, or_false]; omega)), (show Om Dm Dm5 from ⟨fun b hb => om b (by simp only [List.mem_cons, List.not_mem_nil, or_false]; omega), fun j _ _ => o32 j (by omega), hhi⟩).trans v7, by rw [v8, o32 42 (by decide)]⟩
  · unfold pI_putUnit
    simp only [gD]
    rw [m1, bnd_ok, s1, bnd_ok, hpc, Int.add_zero, sto_T (by omega), y1, bnd_ok, v1, bnd_ok]
  · rw [rdA_R (by omega), hnm, r1, bnd_ok, rdA_R (by omega), R_cg (f1 37 (by decide)), hkc, m2, bnd_ok, rdA_R (by omega), R_cg (f2 37 (by decide)), hkc, s2, bnd_ok, wrA_T (by omega), rdA_R (by omega), R_T_ot (by decide), e40c, z1, bnd_ok, rdA_R (by omega), R_cg (om 37 (by decide)), hkc, v2, bnd_ok]
theorem ren_core {c x k nm : Int} (h : St Dc Dm m) (hc : 1 ≤ c ∧ c < 80) (htc : th Dm c) (hx : 0 ≤ x ∧ x ≤ 9999) (hkc : Rz 240 37 Dm c = k) (hnm : Rz 240 38 Dm c = nm) :
    (∃ Dc' Dm', (∀ r, pH_requireNameFree (Rz 240 40 Dm k) x Dc = r → (bnd r fun _ D4 => bnd (pL_wantFor (Rz 240 40 Dm k) (rk x * 80 + c) (pC_wantNothing D4)) fun v1 D6 => bnd (pH_requireListNotFull v1 D6) fun _ D7 => bnd (pC_getAllWanted D7) fun v2 D8 => bnd (pH_requireRoom v2 D8) fun _ D9 => bnd (pL_putIn (Rz 240 40 Dm k) (rk x * 80 + c) 0 D9) fun _ D10 => bnd (pL_takeOut (Rz 240 40 Dm k) (rk nm * 80 + c) D10) fun v3 D11 => gD (pI_putUnit (Rz 240 40 Dm c + 0) x D11) fun D12 => bnd (pC_markWritten (Rz 240 40 Dm c) D12) fun _ D13 => bnd (pH_tellUpwards k 1 D13) fun _ D14 => okR nm D14) = erR 2 Dc') ∧ pM_cannotRename c x Dm = okR 1 Dm' ∧ (Tr Dc' Dm' ∧ Dy Dc' Dm' ∧ Wt Dc' Dm' m) ∧ Oc Dc Dc' ∧ Om Dm Dm') ∨
    (∃ Dc' Dm1 Dm', (∀ r, pH_requireNameFree (Rz 240 40 Dm k) x Dc = r → (bnd r fun _ D4 => bnd (pL_wantFor (Rz 240 40 Dm k) (rk x * 80 + c) (pC_wantNothing D4)) fun v1 D6 => bnd (pH_requireListNotFull v1 D6) fun _ D7 => bnd (pC_getAllWanted D7) fun v2 D8 => bnd (pH_requireRoom v2 D8) fun _ D9 => bnd (pL_putIn (Rz 240 40 Dm k) (rk x * 80 + c) 0 D9) fun _ D10 => bnd (pL_takeOut (Rz 240 40 Dm k) (rk nm * 80 + c) D10) fun v3 D11 => gD (pI_putUnit (Rz 240 40 Dm c + 0) x D11) fun D12 => bnd (pC_markWritten (Rz 240 40 Dm c) D12) fun _ D13 => bnd (pH_tellUpwards k 1 D13) fun _ D14 => okR nm D14) = okR nm Dc') ∧ pM_cannotRename c x Dm = okR 0 Dm1 ∧
      (rdA 240 38 c (up2 Dm1 32 42 0) fun v3 => bnd (pM_writesGot (up2 Dm1 32 42 0)) fun _ D4 => rdA 240 37 c D4 fun v4 => bnd (pM_enters v4 c x 0 D4) fun _ D5 => rdA 240 37 c D5 fun v5 => bnd (pM_goes v5 v3 D5) fun _ D6 => wrA 240 38 c x D6 fun D7 => rdA 240 40 c D7 fun v6 => bnd (pM_writes v6 D7) fun _ D8 => rdA 240 37 c D8 fun v7 => bnd (pM_changes v7 1 D8) fun _ D9 => okR v3 D9) = okR nm Dm' ∧
      Tr Dc' Dm' ∧ Dy Dc' Dm' ∧ Wt Dc' Dm' (m + 80) ∧ Oc Dc Dc' ∧ Om Dm Dm' ∧ Dm' 32 42 = 0) := by
  obtain ⟨a1, a2, a3⟩ := h.1.2.2.2.2.1 c hc.1 hc.2 htc
  rw [hkc] at a1 a2 a3
  obtain ⟨j0, b1, b2, b3⟩ := a3
  have htk : th Dm k := a2
  have hk : 0 ≤ k ∧ k < 80 := by omega
  have hkr := St.kr h.1 hk htk
  have hW0 := hkr.2.2.2.2.2.1
  have n8 := hW0.1
  have n1 : 1 ≤ Rz 240 42 Dm k := by
    by_cases z : Rz 240 42 Dm k = 0
    · rw [z, sm_0] at b2
      omega
    · omega
  obtain ⟨r, hr, nf, eo, rb⟩ := named_both h.1 hk htk hx
  have m1 : pM_cannotRename c x Dm = if r = -1 then (bnd (pM_isFull k x Dm) fun v3 D2 => if (w32 v3) = 0 then (gD (up2 D2 32 37 0) fun D3 => rdA 240 37 c D3 fun v5 => bnd (pM_wantsEntry v5 x D3) fun _ D5 => bnd (pM_gets D5) fun v4 D6 => if (w32 v4) = 0 then okR 1 D6 else okR 0 D6) else okR 1 D2) else okR 1 Dm := by
    unfold pM_cannotRename
    rw [w32_of (z := c) (by omega), if_neg (show ¬ c = 0 by omega), rdA_R (by omega), hkc, eo, bnd_ok, w32_of (z := r) (by omega), rdA_R (by omega), hkc]
  by_cases q2 : r = -1
  rotate_left
  · rw [if_neg q2] at nf m1
    refine Or.inl ⟨Dc, Dm, fun r hr => by rw [← hr, nf, bnd_er], m1, ⟨h.1, h.2.1, h.2.2.1⟩, Oc.rf _, Om.rf _⟩
  rw [if_pos q2] at nf m1
  have hnew : ∀ j, 0 ≤ j → j < sm (mc Dm k) (Rz 240 42 Dm k) → mn_ Dm k j ≠ x := by
    rcases hr with z | z
    · exact z.2
    · omega
  obtain ⟨L, l1, l2, l3⟩ := spot_L hk hW0 hx hnew
  rw [isFull_m hk hW0 rfl l1 l2, bnd_ok] at m1
  obtain ⟨gc0, gm0, wn0⟩ := wantNothing_both Dc Dm (fun _ => 6)
  have h1 : St (pC_wantNothing Dc) (up2 Dm 32 37 0) m := h.gw gc0 gm0
  have eq1 : ∀ b, 33 ≤ b → b ≤ 57 → up2 Dm 32 37 0 b = Dm b := fun b y1 y2 => gm0.1 b (by simp only [List.mem_cons, List.not_mem_nil, or_false]; omega)
  have hmc1 : mc (up2 Dm 32 37 0) = mc Dm := by funext a b; exact R_cg (eq1 45 (by decide) (by decide)) _
  have hme1 : me (up2 Dm 32 37 0) = me Dm := by funext a b; exact R_cg (eq1 46 (by decide) (by decide)) _
  have hmn1 : mn_ (up2 Dm 32 37 0) = mn_ Dm := by funext a b; exact R_cg (eq1 47 (by decide) (by decide)) _
  have hmE1 : mE (up2 Dm 32 37 0) = mE Dm := by funext a b; unfold mE; rw [hme1, hmn1]
  have e42 : Rz 240 42 (up2 Dm 32 37 0) = Rz 240 42 Dm := Rz_fn (eq1 42 (by decide) (by decide))
  have e40 : Rz 240 40 (up2 Dm 32 37 0) = Rz 240 40 Dm := Rz_fn (eq1 40 (by decide) (by decide))
  have l1' := leafFor_eqv (D' := up2 Dm 32 37 0) hk hW0 hx hnew (fun b hb => eq1 b (by simp only [List.mem_cons, List.not_mem_nil, or_false] at hb; omega) (by simp only [List.mem_cons, List.not_mem_nil, or_false] at hb; omega)) l1
  have tt1 : th (up2 Dm 32 37 0) = th Dm := th_fn (eq1 36 (by decide) (by decide))
  have wf := wantFor_both (x := x) (y := c) (n := Rz 240 42 Dm k) h1.1.1 hk (by rw [tt1]; exact htk) hx (by omega) (by rw [e42]) l1' l2 (by rw [hmc1, hmE1]; exact l3 c (by omega) hc.2) wn0 (by omega)
  rw [hmc1, e40] at wf
  rcases wf with ⟨f1, f2, Dc2, f3, f4⟩ | ⟨f1, Dc2, Dm2, f3, f4, f5, f6, f7⟩
  · refine Or.inl ⟨Dc2, Dm, fun r hr => ?_, ?_, ?_, (gc0.trans f4).oc, Om.rf _⟩
    · rw [← hr, nf, bnd_ok, f3, bnd_ok]
      unfold pH_requireListNotFull
      rw [w32_k0, if_pos rfl, bnd_er]
    · rw [m1, if_pos (show Rz 240 42 Dm k = 8 ∧ mc Dm k L = 4 from ⟨f1, f2⟩), w32_k1, if_neg (by decide)]
    · have := h.gw (gc0.trans f4) (Gm.rf Dm)
      exact ⟨this.1, this.2.1, this.2.2.1⟩
  · rw [if_neg f1, w32_k0, if_pos rfl] at m1
    simp only [gD] at m1
    rw [rdA_R (by omega), R_up2_ot (by decide), hkc, f4, bnd_ok] at m1
    have h2 : St Dc2 Dm2 m := h1.gw f5 f6
    obtain ⟨q, w, hwn, hq, hE⟩ : ∃ q w, Wn Dc2 Dm2 q w ∧ (0 ≤ q ∧ q ≤ 6) ∧ ((1 ≤ Rz 240 42 Dm k ∧ mc Dm k L < 4) ∨ (Rz 240 42 Dm k = 1 ∧ mc Dm k L = 4 ∧ 1 < q ∧ w 0 = 9 ∧ w 1 = 5) ∨ (2 ≤ Rz 240 42 Dm k ∧ Rz 240 42 Dm k < 8 ∧ mc Dm k L = 4 ∧ 0 < q ∧ w 0 = 5)) := by
      rcases f7 with ⟨z1, z2⟩ | ⟨z1, z2, z3⟩ | ⟨z1, z2, z3⟩ | ⟨z1, z2, z3, z4⟩
      · omega
      · exact ⟨_, _, z3, by omega, Or.inl ⟨z1, z2⟩⟩
      · exact ⟨_, _, z3, by omega, Or.inr (Or.inl ⟨z1, z2, by omega, by simp, by simp⟩)⟩
      · exact ⟨_, _, z4, by omega, Or.inr (Or.inr ⟨z1, z2, z3, by omega, by simp⟩)⟩
    have gc2 := gc0.trans f5
    have gm2 := gm0.trans f6
    have lf : pH_requireListNotFull 1 Dc2 = okR 0 Dc2 := by
      unfold pH_requireListNotFull
      rw [w32_k1, if_neg (by decide)]
    obtain ⟨Dc3, Dm3, ⟨g1, g2, g3, g4⟩, g5, g6, g7, g8, g9⟩ := gets_ok h2 hwn hq
    rcases g9 with ⟨y1, y2, g, y3, y4, y5⟩ | ⟨y1, y2, y3⟩
    · right
      have z57 : ∀ b, 35 ≤ b → b ≤ 57 → Dm3 b = Dm b := fun b x1 x2 => by
        rw [g7 b (by simp only [List.mem_cons, List.not_mem_nil, or_false]; omega), gm2.1 b (by simp only [List.mem_cons, List.not_mem_nil, or_false]; omega)]
      have z58 : ∀ b, 35 ≤ b → b ≤ 57 → up2 Dm3 32 42 0 b = Dm b := fun b x1 x2 => by rw [up2_ot (by omega), z57 b x1 x2]
      have hmc3 : mc (up2 Dm3 32 42 0) = mc Dm := by funext a b; exact R_cg (z58 45 (by decide) (by decide)) _
      have hmn3 : mn_ (up2 Dm3 32 42 0) = mn_ Dm := by funext a b; exact R_cg (z58 47 (by decide) (by decide)) _
      have e423 : Rz 240 42 (up2 Dm3 32 42 0) = Rz 240 42 Dm := Rz_fn (z58 42 (by decide) (by decide))
      have e403 : Rz 240 40 (up2 Dm3 32 42 0) = Rz 240 40 Dm := Rz_fn (z58 40 (by decide) (by decide))
      have tt3 : th (up2 Dm3 32 42 0) = th Dm := th_fn (z58 36 (by decide) (by decide))
      have l3' := leafFor_eqv (D' := up2 Dm3 32 42 0) hk hW0 hx hnew (fun b hb => z58 b (by simp only [List.mem_cons, List.not_mem_nil, or_false] at hb; omega) (by simp only [List.mem_cons, List.not_mem_nil, or_false] at hb; omega)) l1
      obtain ⟨Dc', Dm', v1, v2, v3, v4, v5, v6, v7, v8⟩ := renames_both (c := c) (nm := nm) (n := Rz 240 42 Dm k) (L := L) (q := q) (g := g) (w := w) (m := m) (Dc := Dc3) (Dm := up2 Dm3 32 42 0) (k := k) (x := x) g1.thr hc (by rw [tt3]; exact htc) hx (by rw [Rz_fn (z58 37 (by decide) (by decide))]; exact hkc) (by rw [Rz_fn (z58 38 (by decide) (by decide))]; exact hnm) (by rw [hmc3, hmn3, e423]; exact hnew) (by rw [e423]) l3' hq (by rw [up2_nk (by decide)]; exact g8) (fun i x1 x2 => by
          obtain ⟨a1, a2, a3, a4⟩ := y3 i x1 x2
          refine ⟨a1, by rw [R_up2_ot (by decide)]; exact a2, ?_, a4⟩
          rw [th_fn (up2_ot (by decide)), Rz_fn (up2_ot (show (56 : Nat) ≠ 32 by decide)), Rz_fn (up2_ot (show (57 : Nat) ≠ 32 by decide))]
          exact a3.eqv rfl (fun b _ _ => up2_ot (by omega))) y4 (by rw [hmc3]; exact hE) (fun t x1 x2 => by rw [R_up2_ot (by decide)]; exact y5 t x1 x2) g2.thr h.2.2.2
      rw [e403] at v1
      refine ⟨Dc', Dm3, Dm', fun r hr => ?_, ?_, v2, v3, v4, v5, gc2.oc.trans (g3.trans v6), gm2.om.trans (g4.trans ((Om.thr _ _).trans v7)), by rw [v8, up2_eq]⟩
      · rw [← hr, nf, bnd_ok, f3, bnd_ok, lf, bnd_ok, y1, bnd_ok]
        have : pH_requireRoom 1 Dc3 = okR 0 Dc3 := by
          unfold pH_requireRoom
          rw [w32_k1, if_neg (by decide)]
        rw [this, bnd_ok]
        exact v1
      · rw [m1, y2, bnd_ok, w32_k1, if_neg (by decide)]
    · refine Or.inl ⟨Dc3, Dm3, fun r hr => ?_, ?_, ⟨g1, y3, g2⟩, gc2.oc.trans g3, gm2.om.trans g4⟩
      · rw [← hr, nf, bnd_ok, f3, bnd_ok, lf, bnd_ok, y1, bnd_ok]
        unfold pH_requireRoom
        rw [w32_k0, if_pos rfl, bnd_er]
      · rw [m1, y2, bnd_ok, w32_k0, if_pos rfl]
theorem rename_ok {c x : Int} (h : St Dc Dm m) (hc : -2147483648 ≤ c ∧ c ≤ 2147483647) (hx : -2147483648 ≤ x ∧ x ≤ 2147483647) : Ok [(0, 1), (1, 2), (2, 3)] Dc Dm m (pH_rename c x Dc) (pM_rename c x Dm) := by
  rcases key_both h.1 hc with ⟨g, t, c0, c1, d⟩ | ⟨g, c0, c1, d⟩
  · by_cases q : 0 ≤ x ∧ x ≤ 9999
    · by_cases q0 : c = 0
      · subst q0
        refine Ok.cannot (v := 0) (e := 2) (x := 3) ⟨h.1, h.2.1, h.2.2.1⟩ (Oc.rf _) (Om.rf _) (by decide) ?_ ?_
        · unfold pM_rename pM_cannotRename
          rw [d, bnd_ok]
          simp only [jnR]
          rw [w32_k1, if_neg (by decide), isName_m hx, if_pos q, if_neg (by decide), w32_k0, if_pos rfl, bnd_ok, w32_k1, if_neg (by decide), failsP (by omega), bnd_ok, w32_k1, if_neg (by decide)]
        · unfold pH_rename pH_requireNotRoot
          rw [c1, bnd_ok, requireName_c hx, if_pos q, bnd_ok, w32_k0, if_pos rfl, bnd_er]
      · obtain ⟨p1, p2, p3⟩ := h.1.place g t
        have hkr := St.kr h.1 g t
        have hpar := h.1.2.2.2.2.1 c (by omega) g.2 t
        obtain ⟨pk1, pk2, pk3⟩ := h.1.place (k := Rz 240 37 Dm c) (by omega) hpar.2.1
        have cl : pH_rename c x Dc = bnd (pH_requireNameFree (Rz 240 40 Dm (Rz 240 37 Dm c)) x Dc) fun _ D4 => bnd (pL_wantFor (Rz 240 40 Dm (Rz 240 37 Dm c)) (rk x * 80 + c) (pC_wantNothing D4)) fun v1 D6 => bnd (pH_requireListNotFull v1 D6) fun _ D7 => bnd (pC_getAllWanted D7) fun v2 D8 => bnd (pH_requireRoom v2 D8) fun _ D9 => bnd (pL_putIn (Rz 240 40 Dm (Rz 240 37 Dm c)) (rk x * 80 + c) 0 D9) fun _ D10 => bnd (pL_takeOut (Rz 240 40 Dm (Rz 240 37 Dm c)) (rk (Rz 240 38 Dm c) * 80 + c) D10) fun v3 D11 => gD (pI_putUnit (Rz 240 40 Dm c + 0) x D11) fun D12 => bnd (pC_markWritten (Rz 240 40 Dm c) D12) fun _ D13 => bnd (pH_tellUpwards (Rz 240 37 Dm c) 1 D13) fun _ D14 => okR (Rz 240 38 Dm c) D14 := by
          have nr : pH_requireNotRoot c Dc = okR 0 Dc := by
            unfold pH_requireNotRoot
            rw [w32_of hc, if_neg q0]
          unfold pH_rename pI_placeOfKey pI_unitAt pL_entryOf
          simp only [ltR, gD]
          rw [c1, bnd_ok, requireName_c hx, if_pos q, bnd_ok, nr, bnd_ok, rd_R (i := c) (by omega), p1, rd_R (i := Rz 240 40 Dm c + 1) (by omega), hkr.2.2.1.2.1, rd_R (i := Rz 240 40 Dm c + 0) (by omega), rd_R (i := Rz 240 37 Dm c) (by omega), pk1, rank_c q]
          rw [Int.add_zero, hkr.2.2.1.1, rank_c hkr.2.2.2.1.1]
        rcases ren_core h ⟨by omega, g.2⟩ t q rfl rfl with ⟨Dc', Dm', k1, k2, k3, k4, k5⟩ | ⟨Dc', Dm1, Dm', k1, k2, k3, k4, k5, k6, k7, k8, k9⟩
        · refine Ok.cannot (v := 0) (e := 2) (x := 3) k3 k4 k5 (by decide) ?_ (cl.trans (k1 _ rfl))
          unfold pM_rename
          rw [d, bnd_ok]
          simp only [jnR]
          rw [w32_k1, if_neg (by decide), isName_m hx, if_pos q, if_neg (by decide), k2, bnd_ok, w32_k1, if_neg (by decide), failsP (by omega), bnd_ok, w32_k1, if_neg (by decide)]
        · refine ⟨Dc', Dm', _, ?_, ⟨k4, k5, k6⟩, k7, k8, Or.inl ⟨cl.trans (k1 _ rfl), k9⟩⟩
          unfold pM_rename
          rw [d, bnd_ok]
          simp only [jnR]
          rw [w32_k1, if_neg (by decide), isName_m hx, if_pos q, if_neg (by decide), k2, bnd_ok, w32_k0, if_pos rfl, fails0, bnd_ok, w32_k0, if_pos rfl]
          exact k3
    · refine Ok.err (v := 0) (e := 1) (x := 2) h (by decide) ?_ ?_
      · unfold pM_rename
        rw [d, bnd_ok]
        simp only [jnR]
        rw [w32_k1, if_neg (by decide), isName_m hx, if_neg q, if_pos rfl, failsP (by omega), bnd_ok, w32_k1, if_neg (by decide)]
      · unfold pH_rename
        rw [c1, bnd_ok, requireName_c hx, if_neg q, bnd_er]
  · refine Ok.err (v := 0) (e := 0) (x := 1) h (by decide) ?_ ?_
    · unfold pM_rename
      rw [d, bnd_ok]
      simp only [jnR]
      rw [w32_k0, if_pos rfl, failsP (by omega), bnd_ok, w32_k1, if_neg (by decide)]
    · unfold pH_rename
      rw [c1, bnd_er]
end RENAME
