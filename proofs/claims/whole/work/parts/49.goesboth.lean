/-! an entry goes out of a list, side by side -/
theorem goes_both {Dc Dm : DD} {k p x n N t : Int} (hC : CR Dc Dm) (hk : 0 ≤ k ∧ k < 80) (hp : Rz 240 40 Dm k = p) (hps : Rz 1024 3 Dc p = 6) (hn : Rz 240 42 Dm k = n) (hN : sm (mc Dm k) n = N)
    (hLC : LC (Rz 1024 4 Dc) (Rz 1024 3 Dc) (Rz 1024 4 Dc (p + 2)) n (ml Dm k) (mc Dm k) (mE Dm k) (Rz 240 43 Dm k)) (hinj : ∀ i j, 0 ≤ i → i < n → 0 ≤ j → j < n → ml Dm k i = ml Dm k j → i = j) (hW : MW Dm k)
    (ht : 0 ≤ t ∧ t < N) (hx : mn_ Dm k t = x) :
    ∃ Dc' Dm' P v n' L, pL_takeOut p (mE Dm k t) Dc = okR v Dc' ∧ pM_goes k x Dm = okR 0 Dm' ∧ CR Dc' Dm' ∧ (∀ b, b ∉ [3, 4, 7] → Dc' b = Dc b) ∧ (∀ j, j ≠ 5 → Dc' 7 j = Dc 7 j) ∧
      (∀ s, 0 ≤ s → s < 64 → (bit (Dc' 7 5) s = true ↔ bit (Dc 7 5) s = true ∨ P s)) ∧ Mb Dm Dm' P ∧ Lg Dm Dm' k ∧ Dm' 32 41 = Dm 32 41 + v ∧ MW Dm' k ∧ Rz 240 42 Dm' k = n' ∧
      LC (Rz 1024 4 Dc') (Rz 1024 3 Dc') (Rz 1024 4 Dc' (p + 2)) n' (ml Dm' k) (mc Dm' k) (mE Dm' k) (Rz 240 43 Dm' k) ∧ sm (mc Dm' k) n' = N - 1 ∧ (∀ j, 0 ≤ j → j < N - 1 → me Dm' k j = delF (me Dm k) t j ∧ mn_ Dm' k j = delF (mn_ Dm k) t j) ∧
      (0 ≤ L ∧ L < n) ∧ ((n' = n ∧ (∀ i, ml Dm' k i = ml Dm k i) ∧ Rz 240 43 Dm' k = Rz 240 43 Dm k ∧ (∀ u, 0 < Rz 1024 3 Dc u → Rz 1024 3 Dc' u = Rz 1024 3 Dc u)) ∨
        (n' = n - 1 ∧ (∀ i, 0 ≤ i → i < n' → ml Dm' k i = delF (ml Dm k) L i) ∧ (2 ≤ n' → Rz 240 43 Dm' k = Rz 240 43 Dm k) ∧ (∀ u, 0 < Rz 1024 3 Dc u → u ≠ ml Dm k L → (n = 2 → u ≠ Rz 240 43 Dm k) → Rz 1024 3 Dc' u = Rz 1024 3 Dc u))) ∧
      (∀ i, i ≠ p + 2 → (i < ml Dm k L ∨ ml Dm k L + 5 ≤ i) → (2 ≤ n → i < Rz 240 43 Dm k ∨ Rz 240 43 Dm k + 9 ≤ i) → Rz 1024 4 Dc' i = Rz 1024 4 Dc i) := by
  obtain ⟨hT, hsc, hsm, hss⟩ := id hC
  have he : 16 * Dc 2 4 ≤ 1024 := by omega
  have hn8 := hLC.1
  have m33 : ∀ u v, 0 < v → Rz 1024 3 Dc u = v → Rz 3072 33 Dm u = v ∧ 0 ≤ u ∧ u + v ≤ 1024 := fun u v hv hu => by
    have := hT.1 u (by omega)
    exact ⟨by rw [hss u (by omega) (by omega), hu], by omega, by omega⟩
  obtain ⟨mp1, mp2, mp3⟩ := m33 p 6 (by omega) hps
  have hpp := hT.1 p (by omega)
  have hN32 := (hLC.tot (i := n) hn8.1 (Int.le_refl _)).2
  rw [hN] at hN32
  obtain ⟨L, l1, l2, l3, l4⟩ := sm_find (f := mc Dm k) n.toNat n t (by omega) ht.1 (by rw [hN]; exact ht.2)
  obtain ⟨s1, s2, s3, s4⟩ := hLC.2.2.1 L l1 l2
  obtain ⟨mq1, mq2, mq3⟩ := m33 (ml Dm k L) 5 (by omega) s1
  have hq4 := hT.1 (ml Dm k L) (by omega)
  have hstep := fun (i j : Int) (a0 : 0 ≤ i) (b0 : i < j) (c0 : j ≤ n) => sm_step (f := mc Dm k) (i := i) (j := j) a0 b0 (fun q x y => by have := (hLC.2.2.1 q (by omega) (by omega)).2.2.1; omega)
  have htot := fun (i : Int) (a0 : 0 ≤ i) (c0 : i ≤ n) => hLC.tot a0 c0
  have hst := hstep L n l1 l2 (Int.le_refl _)
  have htL := htot L l1 (by omega)
  have hEb : ∀ j, 0 ≤ j → j < sm (mc Dm k) n → 0 ≤ mE Dm k j ∧ mE Dm k j ≤ 100000000 := fun j b1 b2 => hW.ebd b1 (by rw [hn]; exact b2)
  have hX := hEb t ht.1 (by rw [hN]; exact ht.2)
  have hmono : ∀ j j', 0 ≤ j → j < j' → j' < N → mE Dm k j < mE Dm k j' := fun j j' a b c => hW.emono a b (by rw [hn, hN]; exact c)
  have hxb := (hW.2.2.1 t ht.1 (by rw [hn, hN]; exact ht.2)).1
  rw [hx] at hxb
  have hLF : LF (mc Dm k) (mE Dm k) n (mE Dm k t) L := by
    refine ⟨⟨l1, Or.inl l2⟩, ?_, fun j b1 b2 => ?_⟩
    · right
      by_cases q : sm (mc Dm k) L = t
      · rw [q]; exact Int.le_refl _
      · have := hmono _ t htL.1 (by omega) ht.2
        omega
    · have q1 := hstep j n (by omega) b2 (Int.le_refl _)
      have q2 := (hLC.2.2.1 j (by omega) b2).2.2.1
      have q3 : sm (mc Dm k) L + mc Dm k L ≤ sm (mc Dm k) j := hstep L j l1 b1 (by omega)
      exact hmono t _ ht.1 (by omega) (by omega)
  have a0 : 0 ≤ t - sm (mc Dm k) L ∧ t - sm (mc Dm k) L < mc Dm k L := by omega
  have hdpq := hT.dis (u := p) (v := ml Dm k L) (by omega) (by omega) (fun z => by rw [z] at hps; omega)
  rw [hps, s1] at hdpq
  -- the class up to the row
  obtain ⟨D1, m1, m2⟩ := mark_class (D := Dc) hps (by omega) (by omega) (by omega)
  have ef1 := m2.ef
  have hT1 := ef1.til hT
  have hLC1 : LC (Rz 1024 4 D1) (Rz 1024 3 D1) (Rz 1024 4 D1 (p + 2)) n (ml Dm k) (mc Dm k) (mE Dm k) (Rz 240 43 Dm k) := by
    rw [show Rz 1024 4 D1 = Rz 1024 4 Dc from funext m2.un, show Rz 1024 3 D1 = Rz 1024 3 Dc from funext ef1.sz]
    exact hLC
  obtain ⟨L', f1, f2⟩ := leafFor_c hLC1 hT1 he (p := p) (by omega) rfl hEb hX
  have := f2.uniq hLF
  subst this
  obtain ⟨D2, m3, m4⟩ := mark_class (D := D1) (p := ml Dm k L') (n := 5) (by rw [ef1.sz]; exact s1) (by omega) (by omega) (by omega)
  have ef2 := ef1.trans m4.ef
  have un2 : ∀ u, Rz 1024 4 D2 u = Rz 1024 4 Dc u := fun u => (m4.un u).trans (m2.un u)
  have ah : pL_entriesAhead (ml Dm k L') (mE Dm k t) D2 = okR (t - sm (mc Dm k) L') D2 := aheadq (F := fun j => mE Dm k (sm (mc Dm k) L' + j)) (k := mc Dm k L') ⟨by omega, by omega⟩ (by omega) (by rw [un2]; exact s2) (fun j j0 j1 => by
    rw [un2, s4 j j0 j1]
    exact ⟨rfl, hEb _ (by omega) (by omega)⟩) hX (by omega) (fun j j0 j1 => hmono _ t (by omega) (by omega) ht.2) (fun j j0 j1 => by
    by_cases q : sm (mc Dm k) L' + j = t
    · rw [q]; exact Int.le_refl _
    · have := hmono t (sm (mc Dm k) L' + j) ht.1 (by omega) (by omega)
      omega)
  obtain ⟨D3, k1, k2, k3⟩ := remove_c (D := D2) (q := ml Dm k L') (m := t - sm (mc Dm k) L') (c := mc Dm k L') (by omega) a0 (by omega) (by rw [un2]; exact s2)
  have ef3 : Ef Dc D3 (fun s => sec p 6 s ∨ sec (ml Dm k L') 5 s) := (ef2.trans (Ef.of4 k2)).iff (fun s _ _ => by simp)
  have un3 : ∀ i, (i < ml Dm k L' ∨ ml Dm k L' + 5 ≤ i) → Rz 1024 4 D3 i = Rz 1024 4 Dc i := fun i hi => by
    rw [k3, if_neg (by omega), if_neg (by omega), un2]
  have un3q : Rz 1024 4 D3 (ml Dm k L') = mc Dm k L' - 1 := by rw [k3, if_pos rfl]
  have cls : pL_takeOut p (mE Dm k t) Dc = if 0 < mc Dm k L' - 1 then okR 0 D3 else bnd (pC_giveBack (ml Dm k L') D3) fun v3 D6 => bnd (pL_removeLeaf p L' D6) fun v4 D7 => okR (v3 + v4) D7 := by
    unfold pL_takeOut
    rw [m1, bnd_ok, f1, bnd_ok]
    simp only [ltR]
    rw [leafNumbered_c hLC1 hT1 he (by omega) rfl l1 l2, m3, bnd_ok, ah, bnd_ok, k1, bnd_ok]
    have hic : pI_itemCount (ml Dm k L') D3 = mc Dm k L' - 1 := by
      unfold pI_itemCount
      rw [rd_R (by omega), un3q]
    rw [hic, w32_of (z := mc Dm k L' - 1) (by omega)]
  -- the reference up to there
  obtain ⟨M1, e1, e2, e3, e4, e5⟩ := g41_loop hk (N := N) (by omega) fu t Dm ht.1 (by omega) (fu_gt (by omega))
  have r33 : ∀ v i, Rz 3072 33 (Tz 1920 45 M1 (8 * k + L') v) i = Rz 3072 33 Dm i := fun v i => by rw [R_T_ot (by decide), R_cg (e3 33 (by decide) (by decide))]
  obtain ⟨M2, w1, w2⟩ := mark_model (D := Tz 1920 45 M1 (8 * k + L') (mc Dm k L' - 1)) (p := ml Dm k L') (n := 5) (by rw [r33]; exact mq1) (by omega) mq2 mq3
  have lk2 : Lk Dm M2 k := e2.trans ((Lk.T1920 (Or.inr rfl) hk (by omega)).trans (Lk.of58 w2))
  have ot2 : ∀ b, b ∉ [45, 46, 47, 58] → M2 b = Dm b := fun b hb => by
    rw [w2.1 b (nin hb (by decide)), T_ot (nin hb (by decide)), e3 b (nin hb (by decide)) (nin hb (by decide))]
  have mb2 : Mb Dm M2 (sec (ml Dm k L') 5) := fun s a b => by rw [w2.2 s a b, R_T_ot (by decide), R_cg (e3 58 (by decide) (by decide))]
  have mc2 : ∀ i, mc M2 k i = uI (mc Dm k) L' (mc Dm k L' - 1) i := fun i => by
    have : mc M2 k i = mc (Tz 1920 45 M1 (8 * k + L') (mc Dm k L' - 1)) k i := R_cg (w2.1 45 (by decide)) _
    rw [this]
    have q : mc M1 k i = mc Dm k i := R_cg (e3 45 (by decide) (by decide)) _
    unfold uI
    by_cases z : i = L'
    · rw [if_pos z, z]
      unfold mc
      exact R_T_eq ⟨by omega, by omega⟩
    · rw [if_neg z, ← q]
      unfold mc
      exact R_T_ne (by omega)
  have me2 : ∀ j, 0 ≤ j → j < N - 1 → me M2 k j = delF (me Dm k) t j := fun j a b => by
    have : me M2 k j = me M1 k j := by
      unfold me
      rw [R_cg (w2.1 46 (by decide)), R_T_ot (by decide)]
    rw [this, e4 j a (by omega)]
    unfold delF
    by_cases z : j < t
    · rw [if_neg (by omega), if_pos z]
    · rw [if_pos (by omega), if_neg z]
  have mn2 : ∀ j, 0 ≤ j → j < N - 1 → mn_ M2 k j = delF (mn_ Dm k) t j := fun j a b => by
    have : mn_ M2 k j = mn_ M1 k j := by
      unfold mn_
      rw [R_cg (w2.1 47 (by decide)), R_T_ot (by decide)]
    rw [this, e5 j a (by omega)]
    unfold delF
    by_cases z : j < t
    · rw [if_neg (by omega), if_pos z]
    · rw [if_pos (by omega), if_neg z]
  have mdl : pM_goes k x Dm = if mc Dm k L' - 1 = 0 then
      (bnd (pM_gives (ml Dm k L') M2) fun _ D9 => rdA 240 42 k D9 fun v8 => wrA 240 42 k (v8 - 1) D9 fun D10 => pM_goes_183 k fu L' D10 fun D11 => rdA 240 42 k D11 fun v9 =>
        if 0 < (w32 v9) then (rdA 240 43 k D11 fun v12 => bnd (pM_writes v12 D11) fun _ D15 => rdA 240 42 k D15 fun v10 => if (w32 v10) = 1 then (rdA 240 43 k D15 fun v11 => bnd (pM_gives v11 D15) fun _ D13 => wrA 240 43 k (-1) D13 fun D14 => entEnd k D14) else entEnd k D15)
        else rdA 240 42 k D11 fun v10 => if (w32 v10) = 1 then (rdA 240 43 k D11 fun v11 => bnd (pM_gives v11 D11) fun _ D13 => wrA 240 43 k (-1) D13 fun D14 => entEnd k D14) else entEnd k D11)
      else entEnd k M2 := by
    have r44 : Rz 1920 44 (Tz 1920 45 M1 (8 * k + L') (mc Dm k L' - 1)) (8 * k + L') = ml Dm k L' := by rw [R_T_ot (by decide), R_cg (e3 44 (by decide) (by decide))]; rfl
    have r45 : Rz 1920 45 M1 (8 * k + L') = mc Dm k L' := by rw [R_cg (e3 45 (by decide) (by decide))]; rfl
    have r45' : Rz 1920 45 M2 (8 * k + L') = mc Dm k L' - 1 := by
      have := mc2 L'
      rw [uI_eq] at this
      exact this
    have r44' : Rz 1920 44 M2 (8 * k + L') = ml Dm k L' := by rw [R_cg (ot2 44 (by decide))]; rfl
    unfold pM_goes
    rw [entryOf_m hk hW hxb (r := t) (Or.inr ⟨ht.1, by rw [hn, hN]; exact ht.2, hx⟩), bnd_ok, g10_loop hk (at_ := t) (L := L') ⟨l1, by omega⟩ (by omega) (fun i b1 b2 => by
        by_cases q : i = L'
        · rw [q]; exact ⟨htL.1, l3⟩
        · have := hstep i L' b1 (by omega) (by omega)
          have := htot i b1 (by omega)
          have := (hLC.2.2.1 i b1 (by omega)).2.2.1
          omega) (by rw [sm_s l1]; exact l4) (by rw [sm_s l1]; omega) fu 0 (by omega) l1 (fu_gt (by omega)), entries_m hk (by omega), bnd_ok]
    simp only [ltR, jnR]
    rw [hn, hN, e1, rdA_R ⟨by omega, by omega, by decide⟩, r45, wrA_T ⟨by omega, by omega, by decide⟩, rdA_R ⟨by omega, by omega, by decide⟩, r44, w1, bnd_ok, rdA_R ⟨by omega, by omega, by decide⟩, r45', w32_of (z := mc Dm k L' - 1) (by omega)]
    by_cases q : mc Dm k L' - 1 = 0
    · rw [if_pos q, if_pos q, rdA_R ⟨by omega, by omega, by decide⟩, r44']
      rfl
    · rw [if_neg q, if_neg q]
      rfl
  have sm2 : ∀ i, 0 ≤ i → sm (uI (mc Dm k) L' (mc Dm k L' - 1)) i = if i ≤ L' then sm (mc Dm k) i else sm (mc Dm k) i - 1 := fun i q1 => by
    rw [sm_upd l1 i.toNat i (by omega)]
    by_cases z : i ≤ L'
    · rw [if_pos z, if_pos z]
    · rw [if_neg z, if_neg z]; omega
  -- the leaves that stay
  have leafOf : ∀ (D' : DD) (i : Int), 0 ≤ i → i < n → i ≠ L' → (∀ u, Rz 1024 4 D' u = Rz 1024 4 D3 u ∨ u = p + 2 ∨ (2 ≤ n ∧ Rz 240 43 Dm k ≤ u ∧ u < Rz 240 43 Dm k + 9)) → (Rz 1024 3 D' (ml Dm k i) = 5) → sz_un Dc D' (ml Dm k i) (mc Dm k i) := by
    intro D' i b0 b1 g hu hz
    obtain ⟨r1, r2, r3, r4⟩ := hLC.2.2.1 i b0 b1
    have x1 := hT.dis (u := ml Dm k i) (v := ml Dm k L') (by omega) (by omega) (fun z => g (hinj i L' b0 b1 l1 l2 z))
    have x2 := hT.dis (u := ml Dm k i) (v := p) (by omega) (by omega) (fun z => by rw [z] at r1; omega)
    rw [r1, s1] at x1
    rw [r1, hps] at x2
    have x3 : 2 ≤ n → ml Dm k i + 5 ≤ Rz 240 43 Dm k ∨ Rz 240 43 Dm k + 9 ≤ ml Dm k i := fun q => by
      have y1 := (hLC.2.2.2 q).1
      have y2 := hT.dis (u := ml Dm k i) (v := Rz 240 43 Dm k) (by omega) (by omega) (fun z => by rw [z] at r1; omega)
      rw [r1, y1] at y2
      exact y2
    have same : ∀ w, 0 ≤ w → w < 5 → Rz 1024 4 D' (ml Dm k i + w) = Rz 1024 4 Dc (ml Dm k i + w) := fun w w0 w5 => by
      rcases hu (ml Dm k i + w) with h | h | ⟨h1, h2, h3⟩
      · rw [h, un3 _ (by omega)]
      · omega
      · have := x3 h1
        omega
    refine ⟨hz, ?_, fun j j0 j1 => ?_⟩
    · have := same 0 (by omega) (by omega)
      rw [Int.add_zero] at this
      rw [this]; exact r2
    · have := same (1 + j) (by omega) (by omega)
      rw [← Int.add_assoc] at this
      exact this
  by_cases hc2 : 0 < mc Dm k L' - 1
  · -- the leaf stays
    obtain ⟨M3, u1, u2⟩ := entEnd_m hk (D := M2) (p := p) (by rw [R_cg (ot2 40 (by decide)), hp]) (by rw [R_cg (ot2 33 (by decide))]; exact mp1) ⟨mp2, mp3⟩
    have mc3 : ∀ i, mc M3 k i = uI (mc Dm k) L' (mc Dm k L' - 1) i := fun i => by
      have : mc M3 k i = mc M2 k i := R_cg (u2.1 45 (by decide)) _
      rw [this, mc2]
    have n3 : Rz 240 42 M3 k = n := by rw [R_cg (u2.1 42 (by decide)), R_cg (ot2 42 (by decide)), hn]
    have ml3 : ∀ i, ml M3 k i = ml Dm k i := fun i => R_cg ((u2.1 44 (by decide)).trans (ot2 44 (by decide))) _
    have ix3 : Rz 240 43 M3 k = Rz 240 43 Dm k := R_cg ((u2.1 43 (by decide)).trans (ot2 43 (by decide))) _
    have meq : ∀ j, 0 ≤ j → j < N - 1 → me M3 k j = delF (me Dm k) t j ∧ mn_ M3 k j = delF (mn_ Dm k) t j := fun j a b => by
      have q1 : me M3 k j = me M2 k j := R_cg (u2.1 46 (by decide)) _
      have q2 : mn_ M3 k j = mn_ M2 k j := R_cg (u2.1 47 (by decide)) _
      exact ⟨q1.trans (me2 j a b), q2.trans (mn2 j a b)⟩
    have smN : sm (mc M3 k) n = N - 1 := by
      rw [show mc M3 k = uI (mc Dm k) L' (mc Dm k L' - 1) from funext mc3, sm2 n hn8.1, if_neg (by omega), hN]
    obtain ⟨W1, W2⟩ := hW.del (D' := M3) (n' := n) (t := t) (N := N) (by rw [hn]; exact hN) n3 hn8 (fun i r1 r2 => by
        have := (hLC.2.2.1 i r1 r2).2.2.1
        rw [mc3]
        unfold uI
        split <;> omega) smN ht meq
    refine ⟨D3, M3, _, 0, n, L', by rw [cls, if_pos hc2], by rw [mdl, if_neg (by omega)]; exact u1, ?_, fun b hb => ef3.1 b (nin hb (by decide)) (nin hb (by decide)), ef3.2.1, ef3.2.2, ?_, lk2.lg.trans (Lk.of58 u2).lg, ?_, W1, n3, ?_, smN, meq, ⟨l1, l2⟩, Or.inl ⟨rfl, ml3, ix3, fun u _ => ef3.sz u⟩, fun i q1 q2 q3 => un3 i q2⟩
    · exact hC.cong (fun u => ef3.sz u) (by rw [ef3.1 2 (by decide) (by decide)]) (fun u _ _ => R_cg ((u2.1 33 (by decide)).trans (ot2 33 (by decide))) u) (by rw [u2.1 34 (by decide), ot2 34 (by decide)])
    · refine (mb2.trans u2.2).iff (fun s _ _ => ?_)
      constructor
      · rintro (q | q)
        · exact Or.inr q
        · exact Or.inl q
      · rintro (q | q)
        · exact Or.inr q
        · exact Or.inl q
    · rw [u2.1 32 (by decide), ot2 32 (by decide)]; omega
    · refine ⟨hn8, ?_, fun i b0 b1 => ?_, fun q => ?_⟩
      · rw [un3 (p + 2) (by omega), ix3, ml3]; exact hLC.2.1
      · obtain ⟨r1, r2, r3, r4⟩ := hLC.2.2.1 i b0 b1
        rw [ml3, mc3, show mc M3 k = uI (mc Dm k) L' (mc Dm k L' - 1) from funext mc3, sm2 i b0]
        by_cases g : i = L'
        · subst g
          rw [uI_eq, ef3.sz]
          refine ⟨s1, un3q, by omega, fun j j0 j1 => ?_⟩
          rw [if_pos (Int.le_refl _), k3, if_neg (by omega), W2 (sm (mc Dm k) i + j) (by omega) (by omega)]
          by_cases z : j < t - sm (mc Dm k) i
          · rw [if_neg (by omega), delF_lo (by omega), un2, s4 j j0 (by omega)]
          · rw [if_pos (by omega), delF_hi (by omega), un2, show ml Dm k i + 1 + j + 1 = ml Dm k i + 1 + (j + 1) by omega, s4 (j + 1) (by omega) (by omega), show sm (mc Dm k) i + (j + 1) = sm (mc Dm k) i + j + 1 by omega]
        · obtain ⟨o1, o2, o3⟩ := leafOf D3 i b0 b1 g (fun u => Or.inl rfl) (by rw [ef3.sz]; exact r1)
          rw [uI_ne g]
          refine ⟨o1, o2, r3, fun j j0 j1 => ?_⟩
          have hsi := hstep i n b0 b1 (Int.le_refl _)
          have hti := htot i b0 (by omega)
          rw [o3 j j0 (by omega), r4 j j0 j1]
          by_cases z : i ≤ L'
          · have := hstep i L' b0 (by omega) (by omega)
            rw [if_pos z, W2 _ (by omega) (by omega), delF_lo (by omega)]
          · have := hstep L' i l1 (by omega) (by omega)
            rw [if_neg z, W2 _ (by omega) (by omega), delF_hi (by omega)]
            congr 1
            omega
      · obtain ⟨r1, r2, r3⟩ := hLC.2.2.2 q
        have hd2 := hT.dis (u := Rz 240 43 Dm k) (v := ml Dm k L') (by omega) (by omega) (fun z => by rw [z] at r1; omega)
        rw [r1, s1] at hd2
        rw [ix3, ef3.sz]
        refine ⟨r1, ?_, fun i b0 b1 => ?_⟩
        · rw [un3 _ (by omega)]; exact r2
        · rw [un3 _ (by omega), ml3]; exact r3 i b0 b1
  · -- the leaf is given back
    have hc1 : mc Dm k L' = 1 := by omega
    have hC2 : CR D3 M2 := hC.cong (fun u => ef3.sz u) (by rw [ef3.1 2 (by decide) (by decide)]) (fun u _ _ => R_cg (ot2 33 (by decide)) u) (by rw [ot2 34 (by decide)])
    obtain ⟨D4, M4, g1, g2, g3, g4, g5, g6, g7, g8, g9, g10, g11, g12, g13⟩ := give_both (Dc := D3) (Dm := M2) (p := ml Dm k L') (n := 5) hC2 (by rw [ef3.sz]; exact s1) (by omega)
    have n4 : Rz 240 42 M4 k = n := by rw [R_cg (g6 42 (by decide)), R_cg (ot2 42 (by decide)), hn]
    have lgM4 : Lg Dm M4 k := lk2.lg.trans (Lg.give g6 g7 g9)
    have un4 : ∀ i, Rz 1024 4 D4 i = Rz 1024 4 D3 i := fun i => R_cg (g4 4 (by decide)) i
    have us4 : ∀ u, 0 < Rz 1024 3 Dc u → u ≠ ml Dm k L' → Rz 1024 3 D4 u = Rz 1024 3 Dc u := fun u q1 q2 => by rw [g10 u q2 (by rw [ef3.sz]; exact q1), ef3.sz]
    -- the leaves behind come forward
    have n5 : Rz 240 42 (Tz 240 42 M4 k (n - 1)) k = n - 1 := R_T_eq ⟨by omega, by omega⟩
    obtain ⟨M6, h1, h2, h3, h4, h5⟩ := g183_loop hk (n := n - 1) (by omega) fu L' (Tz 240 42 M4 k (n - 1)) n5 l1 (by omega) (fu_gt (by omega))
    have lgM6 : Lg Dm M6 k := lgM4.trans ((Lk.T240 (Or.inl rfl) hk).lg.trans h2.lg)
    have ot6 : ∀ b, b ∉ [32, 33, 42, 44, 45, 46, 47, 58] → M6 b = Dm b := fun b hb => by
      rw [h3 b (nin hb (by decide)) (nin hb (by decide)), T_ot (nin hb (by decide)), g6 b (nsub hb (by decide)), ot2 b (nsub hb (by decide))]
    have o46 : M6 46 = M2 46 := by rw [h3 46 (by decide) (by decide), T_ot (by decide), g6 46 (by decide)]
    have o47 : M6 47 = M2 47 := by rw [h3 47 (by decide) (by decide), T_ot (by decide), g6 47 (by decide)]
    have o33 : M6 33 = M4 33 := by rw [h3 33 (by decide) (by decide), T_ot (by decide)]
    have o34 : M6 34 = M4 34 := by rw [h3 34 (by decide) (by decide), T_ot (by decide)]
    have o32 : M6 32 = M4 32 := by rw [h3 32 (by decide) (by decide), T_ot (by decide)]
    have o58 : M6 58 = M4 58 := by rw [h3 58 (by decide) (by decide), T_ot (by decide)]
    have n6 : Rz 240 42 M6 k = n - 1 := by rw [R_cg (h3 42 (by decide) (by decide)), n5]
    have ix6 : Rz 240 43 M6 k = Rz 240 43 Dm k := R_cg (ot6 43 (by decide)) _
    have ml6 : ∀ i, 0 ≤ i → i < n - 1 → ml M6 k i = delF (ml Dm k) L' i := fun i a b => by
      have q : ∀ j, ml (Tz 240 42 M4 k (n - 1)) k j = ml Dm k j := fun j => by
        unfold ml
        rw [R_T_ot (by decide), R_cg (g6 44 (by decide)), R_cg (ot2 44 (by decide))]
      rw [h4 i a (by omega), q, q]
      unfold delF
      by_cases z : i < L'
      · rw [if_neg (by omega), if_pos z]
      · rw [if_pos (by omega), if_neg z]
    have mc6 : ∀ i, 0 ≤ i → i < n - 1 → mc M6 k i = delF (mc Dm k) L' i := fun i a b => by
      have q : ∀ j, j ≠ L' → mc (Tz 240 42 M4 k (n - 1)) k j = mc Dm k j := fun j hj => by
        have : mc (Tz 240 42 M4 k (n - 1)) k j = mc M2 k j := by
          unfold mc
          rw [R_T_ot (by decide), R_cg (g6 45 (by decide))]
        rw [this, mc2, uI_ne hj]
      rw [h5 i a (by omega)]
      unfold delF
      by_cases z : i < L'
      · rw [if_neg (by omega), if_pos z, q i (by omega)]
      · rw [if_pos (by omega), if_neg z, q (i + 1) (by omega)]
    have sm6 : sm (mc M6 k) (n - 1) = N - 1 := by
      rw [sm_cong (g := delF (mc Dm k) L') (fun j a b => mc6 j a b), sm_del l1 (n - 1).toNat (n - 1) (by omega), show n - 1 + 1 = n by omega, hN, hc1]
      by_cases z : n - 1 ≤ L'
      · rw [if_pos z, show n - 1 = L' by omega]
        have : N = sm (mc Dm k) L' + 1 := by rw [← hN, show n = L' + 1 by omega, sm_s l1, hc1]
        omega
      · rw [if_neg z]
    have fin : ∀ M9 : DD, (∀ b, b ∉ [32, 33, 43, 58] → M9 b = M6 b) → (∀ j, 0 ≤ j → j < N - 1 → me M9 k j = delF (me Dm k) t j ∧ mn_ M9 k j = delF (mn_ Dm k) t j) ∧ (∀ i, 0 ≤ i → i < n - 1 → ml M9 k i = delF (ml Dm k) L' i ∧ mc M9 k i = delF (mc Dm k) L' i) ∧ Rz 240 42 M9 k = n - 1 ∧ sm (mc M9 k) (n - 1) = N - 1 ∧ MW M9 k ∧ (∀ j, 0 ≤ j → j < N - 1 → mE M9 k j = delF (mE Dm k) t j) := by
      intro M9 h9
      have q1 : ∀ j, 0 ≤ j → j < N - 1 → me M9 k j = delF (me Dm k) t j ∧ mn_ M9 k j = delF (mn_ Dm k) t j := fun j a b => by
        have v1 : me M9 k j = me M2 k j := R_cg ((h9 46 (by decide)).trans o46) _
        have v2 : mn_ M9 k j = mn_ M2 k j := R_cg ((h9 47 (by decide)).trans o47) _
        exact ⟨v1.trans (me2 j a b), v2.trans (mn2 j a b)⟩
      have q2 : ∀ i, 0 ≤ i → i < n - 1 → ml M9 k i = delF (ml Dm k) L' i ∧ mc M9 k i = delF (mc Dm k) L' i := fun i a b => by
        have v1 : ml M9 k i = ml M6 k i := R_cg (h9 44 (by decide)) _
        have v2 : mc M9 k i = mc M6 k i := R_cg (h9 45 (by decide)) _
        exact ⟨v1.trans (ml6 i a b), v2.trans (mc6 i a b)⟩
      have q3 : Rz 240 42 M9 k = n - 1 := by rw [R_cg (h9 42 (by decide)), n6]
      have q4 : sm (mc M9 k) (n - 1) = N - 1 := by rw [show mc M9 k = mc M6 k from funext (fun i => R_cg (h9 45 (by decide)) _), sm6]
      obtain ⟨W1, W2⟩ := hW.del (D' := M9) (n' := n - 1) (t := t) (N := N) (by rw [hn]; exact hN) q3 (by omega) (fun i r1 r2 => by
        rw [(q2 i r1 r2).2]
        unfold delF
        split
        · exact (hLC.2.2.1 i r1 (by omega)).2.2.1
        · exact (hLC.2.2.1 (i + 1) (by omega) (by omega)).2.2.1) q4 ht q1
      exact ⟨q1, q2, q3, q4, W1, W2⟩
    have mdl2 : pM_goes k x Dm = (if 0 < n - 1 then (bnd (pM_writes (Rz 240 43 Dm k) M6) fun _ D15 => rdA 240 42 k D15 fun v10 => if (w32 v10) = 1 then (rdA 240 43 k D15 fun v11 => bnd (pM_gives v11 D15) fun _ D13 => wrA 240 43 k (-1) D13 fun D14 => entEnd k D14) else entEnd k D15) else entEnd k M6) := by
      rw [mdl, if_pos (by omega), g2, bnd_ok, rdA_R ⟨hk.1, by omega, by decide⟩, n4, wrA_T ⟨hk.1, by omega, by decide⟩, h1, rdA_R ⟨hk.1, by omega, by decide⟩, n6, w32_of (z := n - 1) (by omega)]
      by_cases z : 0 < n - 1
      · rw [if_pos z, if_pos z, rdA_R ⟨hk.1, by omega, by decide⟩, ix6]
      · rw [if_neg z, if_neg z, rdA_R ⟨hk.1, by omega, by decide⟩, n6, w32_of (z := n - 1) (by omega), if_neg (by omega)]
    have leaves : ∀ (D' : DD) (M9 : DD), (∀ i, 0 ≤ i → i < n - 1 → ml M9 k i = delF (ml Dm k) L' i ∧ mc M9 k i = delF (mc Dm k) L' i) → (∀ j, 0 ≤ j → j < N - 1 → mE M9 k j = delF (mE Dm k) t j) → (∀ u, Rz 1024 4 D' u = Rz 1024 4 D3 u ∨ u = p + 2 ∨ (2 ≤ n ∧ Rz 240 43 Dm k ≤ u ∧ u < Rz 240 43 Dm k + 9)) → (∀ u, 0 < Rz 1024 3 Dc u → u ≠ ml Dm k L' → (n = 2 → u ≠ Rz 240 43 Dm k) → Rz 1024 3 D' u = Rz 1024 3 Dc u) →
        ∀ i, 0 ≤ i → i < n - 1 → Rz 1024 3 D' (ml M9 k i) = 5 ∧ Rz 1024 4 D' (ml M9 k i) = mc M9 k i ∧ (1 ≤ mc M9 k i ∧ mc M9 k i ≤ 4) ∧ ∀ j, 0 ≤ j → j < mc M9 k i → Rz 1024 4 D' (ml M9 k i + 1 + j) = mE M9 k (sm (mc M9 k) i + j) := by
      intro D' M9 q2 q6 hu hz i b0 b1
      have smi : sm (mc M9 k) i = if i ≤ L' then sm (mc Dm k) i else sm (mc Dm k) (i + 1) - 1 := by
        rw [sm_cong (g := delF (mc Dm k) L') (fun j a b => (q2 j a (by omega)).2), sm_del l1 i.toNat i (by omega), hc1]
      obtain ⟨v1, v2⟩ := q2 i b0 b1
      have use : ∀ i0, 0 ≤ i0 → i0 < n → i0 ≠ L' → ml M9 k i = ml Dm k i0 → mc M9 k i = mc Dm k i0 → (∀ j, 0 ≤ j → j < mc Dm k i0 → mE M9 k (sm (mc M9 k) i + j) = mE Dm k (sm (mc Dm k) i0 + j)) → Rz 1024 3 D' (ml M9 k i) = 5 ∧ Rz 1024 4 D' (ml M9 k i) = mc M9 k i ∧ (1 ≤ mc M9 k i ∧ mc M9 k i ≤ 4) ∧ ∀ j, 0 ≤ j → j < mc M9 k i → Rz 1024 4 D' (ml M9 k i + 1 + j) = mE M9 k (sm (mc M9 k) i + j) := by
        intro i0 c0 c1 c2 c3 c4 c5
        obtain ⟨r1, r2, r3, r4⟩ := hLC.2.2.1 i0 c0 c1
        have hz0 := hz (ml Dm k i0) (by omega) (fun z => c2 (hinj i0 L' c0 c1 l1 l2 z)) (fun q z => by
          have := (hLC.2.2.2 (by omega)).1
          rw [z] at r1
          omega)
        obtain ⟨o1, o2, o3⟩ := leafOf D' i0 c0 c1 c2 hu (by rw [hz0]; exact r1)
        rw [c3, c4]
        exact ⟨o1, o2, r3, fun j j0 j1 => by rw [o3 j j0 (by omega), r4 j j0 j1, c5 j j0 j1]⟩
      by_cases z : i < L'
      · rw [delF_lo z] at v1 v2
        refine use i b0 (by omega) (by omega) v1 v2 (fun j j0 j1 => ?_)
        have := hstep i L' b0 z (by omega)
        have := htot i b0 (by omega)
        rw [smi, if_pos (by omega), q6 _ (by omega) (by omega), delF_lo (by omega)]
      · rw [delF_hi (by omega)] at v1 v2
        refine use (i + 1) (by omega) (by omega) (by omega) v1 v2 (fun j j0 j1 => ?_)
        have q7 := hstep (i + 1) n (by omega) (by omega) (Int.le_refl _)
        have q8 : sm (mc Dm k) L' + mc Dm k L' ≤ sm (mc Dm k) (i + 1) := hstep L' (i + 1) l1 (by omega) (by omega)
        have e9 : sm (mc M9 k) i = sm (mc Dm k) (i + 1) - 1 := by
          rw [smi]
          by_cases y : i ≤ L'
          · rw [if_pos y, show i = L' by omega, sm_s l1, hc1]; omega
          · rw [if_neg y]
        rw [e9, q6 _ (by omega) (by omega), delF_hi (by omega)]
        congr 1
        omega
    by_cases hn1 : n = 1
    · -- it was the only one
      have hL0 : L' = 0 := by omega
      have hhd : Rz 1024 4 D4 (p + 2) = ml Dm k L' := by rw [un4, un3 _ (by omega), hLC.2.1, if_neg (by omega), if_pos hn1, hL0]
      have hrl : pL_removeLeaf p L' D4 = okR 0 (Tz 1024 4 D4 (p + 2) 0) := by
        unfold pL_removeLeaf pI_unitAt pL_isIndex
        simp only [ltR, pI_putUnit, gD]
        rw [rd_R (i := p + 2) (by omega), hhd, rd_R (by omega)]
        have hz := g13
        have bd := g3.1.bd (by have := g3.2.1; omega) (ml Dm k L')
        rw [w32_of (z := Rz 1024 3 D4 (ml Dm k L')) (by omega), if_neg (show ¬ Rz 1024 3 D4 (ml Dm k L') = 9 by omega), if_pos rfl, sto_T (by omega)]
      obtain ⟨M9, u1, u2⟩ := entEnd_m hk (D := M6) (p := p) (by rw [R_cg (ot6 40 (by decide)), hp]) (by rw [R_cg o33, g3.2.2.2 p (by omega) (by omega), us4 p (by omega) (by omega)]; exact hps) ⟨mp2, mp3⟩
      obtain ⟨q1, q2, q3, q4, q5, q6⟩ := fin M9 (fun b hb => u2.1 b (nin hb (by decide)))
      refine ⟨Tz 1024 4 D4 (p + 2) 0, M9, (fun s => sec p 6 s ∨ sec (ml Dm k L') 5 s), 5, n - 1, L', ?_, ?_, ?_, fun b hb => ?_, fun j hj => ?_, fun s a b => ?_, ?_, lgM6.trans (Lk.of58 u2).lg, ?_, q5, q3, ?_, q4, q1, ⟨l1, l2⟩, Or.inr ⟨rfl, fun i a b => (q2 i a b).1, fun q => by omega, fun u r1 r2 _ => by rw [R_T_ot (by decide)]; exact us4 u r1 r2⟩, fun i r1 r2 r3 => by rw [R_T_ne r1, un4, un3 i r2]⟩
      · rw [cls, if_neg hc2, g1, bnd_ok, hrl, bnd_ok]; rfl
      · rw [mdl2, if_neg (by omega)]; exact u1
      · exact g3.cong (fun u => R_T_ot (by decide)) (by rw [T_ot (by decide)]) (fun u _ _ => R_cg ((u2.1 33 (by decide)).trans o33) u) (by rw [u2.1 34 (by decide), o34])
      · rw [T_ot (nin hb (by decide)), g4 b (nsub hb (by decide)), ef3.1 b (nin hb (by decide)) (nin hb (by decide))]
      · rw [T_ot (by decide), g5 j hj, ef3.2.1 j hj]
      · rw [T_ot (by decide), g11 s a b, ef3.2.2 s a b]
        constructor
        · rintro ((q | q) | q)
          · exact Or.inl q
          · exact Or.inr q
          · exact Or.inr (Or.inr q)
        · rintro (q | q)
          · exact Or.inl (Or.inl q)
          · exact Or.inl (Or.inr q)
      · refine ((mb2.trans (show Mb M2 M4 (sec (ml Dm k L') 5) from g12)).trans ((Mb.ot o58).trans u2.2)).iff (fun s _ _ => ?_)
        constructor
        · rintro ((q | q) | (q | q))
          · exact Or.inr q
          · exact Or.inr q
          · exact q.elim
          · exact Or.inl q
        · rintro (q | q)
          · exact Or.inr (Or.inr q)
          · exact Or.inl (Or.inl q)
      · rw [u2.1 32 (by decide), o32, g8, ot2 32 (by decide)]
      · refine ⟨by omega, ?_, fun i a b => by omega, fun q => by omega⟩
        rw [R_T_eq ⟨by omega, by omega⟩, if_pos (by omega)]
    · -- there is an index
      obtain ⟨r1, r2, r3⟩ := hLC.2.2.2 (by omega)
      obtain ⟨mx1, mx2, mx3⟩ := m33 (Rz 240 43 Dm k) 9 (by omega) r1
      have hxp := hT.1 (Rz 240 43 Dm k) (by omega)
      have dxq := hT.dis (u := Rz 240 43 Dm k) (v := ml Dm k L') (by omega) (by omega) (fun z => by rw [z] at r1; omega)
      have dxp := hT.dis (u := Rz 240 43 Dm k) (v := p) (by omega) (by omega) (fun z => by rw [z] at r1; omega)
      rw [r1, s1] at dxq
      rw [r1, hps] at dxp
      have hhd : Rz 1024 4 D4 (p + 2) = Rz 240 43 Dm k := by rw [un4, un3 _ (by omega), hLC.2.1, if_neg (by omega), if_neg hn1]
      have hix4 : Rz 1024 3 D4 (Rz 240 43 Dm k) = 9 := by rw [us4 _ (by omega) (by omega)]; exact r1
      obtain ⟨D5, v1, v2, v3⟩ := remove_c (D := D4) (q := Rz 240 43 Dm k) (m := L') (c := n) (by omega) ⟨l1, l2⟩ (by omega) (by rw [un4, un3 _ (by omega)]; exact r2)
      obtain ⟨D6, y1, y2⟩ := mark_class (D := D5) (p := Rz 240 43 Dm k) (n := 9) (by rw [R_cg (v2 3 (by decide))]; exact hix4) (by omega) (by omega) (by omega)
      have un6 : ∀ i, Rz 1024 4 D6 i = if i = Rz 240 43 Dm k then n - 1 else if Rz 240 43 Dm k + 1 + L' ≤ i ∧ i < Rz 240 43 Dm k + n then Rz 1024 4 D3 (i + 1) else Rz 1024 4 D3 i := fun i => by rw [y2.un, v3, un4, un4]
      have un6x : ∀ i, 0 ≤ i → i < n - 1 → Rz 1024 4 D6 (Rz 240 43 Dm k + 1 + i) = delF (ml Dm k) L' i := fun i a b => by
        rw [un6, if_neg (by omega)]
        unfold delF
        by_cases z : i < L'
        · rw [if_neg (by omega), if_pos z, un3 _ (by omega)]
          exact r3 i a (by omega)
        · rw [if_pos (by omega), if_neg z, un3 _ (by omega), show Rz 240 43 Dm k + 1 + i + 1 = Rz 240 43 Dm k + 1 + (i + 1) by omega]
          exact r3 (i + 1) (by omega) (by omega)
      have fr6 : ∀ b, b ≠ 4 → b ≠ 7 → D6 b = D4 b := fun b q1 q2 => by rw [y2.1 b q2, v2 b q1]
      have D67 : D5 7 = D4 7 := v2 7 (by decide)
      have wr6 : ∀ u, Rz 1024 4 D6 u = Rz 1024 4 D3 u ∨ u = p + 2 ∨ (2 ≤ n ∧ Rz 240 43 Dm k ≤ u ∧ u < Rz 240 43 Dm k + 9) := fun u => by
        by_cases z : Rz 240 43 Dm k ≤ u ∧ u < Rz 240 43 Dm k + 9
        · exact Or.inr (Or.inr ⟨by omega, z.1, z.2⟩)
        · left
          rw [un6, if_neg (by omega), if_neg (by omega)]
      have hrl : pL_removeLeaf p L' D4 = if 1 < n - 1 then okR 0 D6 else bnd (pC_giveBack (Rz 240 43 Dm k) (Tz 1024 4 D6 (p + 2) (delF (ml Dm k) L' 0))) fun v1 D4 => okR v1 D4 := by
        unfold pL_removeLeaf pI_unitAt pL_isIndex
        simp only [ltR, pI_putUnit, gD]
        rw [rd_R (i := p + 2) (by omega), hhd, rd_R (by omega), hix4, if_pos (show w32 9 = 9 by decide), if_neg (by decide), v1, bnd_ok, y1, bnd_ok]
        unfold pI_itemCount pI_item
        have e0 := un6x 0 (by omega) (by omega)
        rw [rd_R (by omega), un6, if_pos rfl, w32_of (z := n - 1) (by omega), rd_R (by omega), e0, sto_T (by omega)]
      obtain ⟨M7, z1, z2⟩ := mark_model (D := M6) (p := Rz 240 43 Dm k) (n := 9) (by rw [R_cg o33, g3.2.2.2 _ (by omega) (by omega)]; exact hix4) (by omega) mx2 mx3
      by_cases hn2 : n = 2
      · -- one leaf is left: the index is given back
        have hC7 : CR (Tz 1024 4 D6 (p + 2) (delF (ml Dm k) L' 0)) M7 := g3.cong (fun u => by rw [R_T_ot (by decide)]; exact R_cg (fr6 3 (by decide) (by decide)) u) (by rw [T_ot (by decide), fr6 2 (by decide) (by decide)]) (fun u _ _ => R_cg ((z2.1 33 (by decide)).trans o33) u) (by rw [z2.1 34 (by decide), o34])
        obtain ⟨D8, M8, j1, j2, j3, j4, j5, j6, j7, j8, j9, j10, j11, j12, j13⟩ := give_both (Dc := Tz 1024 4 D6 (p + 2) (delF (ml Dm k) L' 0)) (Dm := M7) (p := Rz 240 43 Dm k) (n := 9) hC7 (by rw [R_T_ot (by decide), R_cg (fr6 3 (by decide) (by decide))]; exact hix4) (by omega)
        have us8 : ∀ u, 0 < Rz 1024 3 Dc u → u ≠ ml Dm k L' → u ≠ Rz 240 43 Dm k → Rz 1024 3 D8 u = Rz 1024 3 Dc u := fun u q1 q2 q3 => by
          have := us4 u q1 q2
          rw [j10 u q3 (by rw [R_T_ot (by decide), R_cg (fr6 3 (by decide) (by decide)), this]; exact q1), R_T_ot (by decide), R_cg (fr6 3 (by decide) (by decide)), this]
        have o8 : ∀ b, b ∉ [32, 33, 43, 58] → Tz 240 43 M8 k (-1) b = M6 b := fun b hb => by rw [T_ot (nin hb (by decide)), j6 b (nsub hb (by decide)), z2.1 b (nin hb (by decide))]
        obtain ⟨M9, u1, u2⟩ := entEnd_m hk (D := Tz 240 43 M8 k (-1)) (p := p) (by rw [R_cg (o8 40 (by decide)), R_cg (ot6 40 (by decide)), hp]) (by rw [R_T_ot (by decide), j3.2.2.2 p (by omega) (by omega), us8 p (by omega) (by omega) (by omega)]; exact hps) ⟨mp2, mp3⟩
        obtain ⟨q1, q2, q3, q4, q5, q6⟩ := fin M9 (fun b hb => by rw [u2.1 b (nin hb (by decide)), o8 b hb])
        have un8 : ∀ i, Rz 1024 4 D8 i = if i = p + 2 then delF (ml Dm k) L' 0 else Rz 1024 4 D6 i := fun i => by
          rw [R_cg (j4 4 (by decide))]
          by_cases y : i = p + 2
          · rw [if_pos y, y, R_T_eq ⟨by omega, by omega⟩]
          · rw [if_neg y, R_T_ne y]
        have wr8 : ∀ u, Rz 1024 4 D8 u = Rz 1024 4 D3 u ∨ u = p + 2 ∨ (2 ≤ n ∧ Rz 240 43 Dm k ≤ u ∧ u < Rz 240 43 Dm k + 9) := fun u => by
          by_cases y : u = p + 2
          · exact Or.inr (Or.inl y)
          · rw [un8, if_neg y]; exact wr6 u
        refine ⟨D8, M9, (fun s => sec p 6 s ∨ sec (ml Dm k L') 5 s ∨ sec (Rz 240 43 Dm k) 9 s), 14, n - 1, L', ?_, ?_, ?_, fun b hb => ?_, fun j hj => ?_, fun s a b => ?_, ?_, ?_, ?_, q5, q3, ?_, q4, q1, ⟨l1, l2⟩, Or.inr ⟨rfl, fun i a b => (q2 i a b).1, fun q => by omega, fun u c1 c2 c3 => us8 u c1 c2 (c3 hn2)⟩, fun i c1 c2 c3 => ?_⟩
        · rw [cls, if_neg hc2, g1, bnd_ok, hrl, if_neg (by omega), j1, bnd_ok, bnd_ok]; rfl
        · rw [mdl2, if_pos (by omega), z1, bnd_ok, rdA_R ⟨hk.1, by omega, by decide⟩, R_cg (z2.1 42 (by decide)), n6, w32_of (z := n - 1) (by omega), if_pos (by omega), rdA_R ⟨hk.1, by omega, by decide⟩, R_cg (z2.1 43 (by decide)), ix6, j2, bnd_ok, wrA_T ⟨hk.1, by omega, by decide⟩]
          exact u1
        · exact j3.cong (fun u => rfl) rfl (fun u _ _ => by rw [R_cg (u2.1 33 (by decide)), R_T_ot (by decide)]) (by rw [u2.1 34 (by decide), T_ot (by decide)])
        · rw [j4 b (nsub hb (by decide)), T_ot (nin hb (by decide)), fr6 b (nin hb (by decide)) (nin hb (by decide)), g4 b (nsub hb (by decide)), ef3.1 b (nin hb (by decide)) (nin hb (by decide))]
        · rw [j5 j hj, T_ot (by decide), y2.2.1 j hj, D67, g5 j hj, ef3.2.1 j hj]
        · rw [j11 s a b, T_ot (by decide), y2.2.2 s a b, D67, g11 s a b, ef3.2.2 s a b]
          constructor
          · rintro ((((q | q) | q) | q) | q)
            · exact Or.inl q
            · rcases q with q | q
              · exact Or.inr (Or.inl q)
              · exact Or.inr (Or.inr (Or.inl q))
            · exact Or.inr (Or.inr (Or.inl q))
            · exact Or.inr (Or.inr (Or.inr q))
            · exact Or.inr (Or.inr (Or.inr q))
          · rintro (q | q | q | q)
            · exact Or.inl (Or.inl (Or.inl (Or.inl q)))
            · exact Or.inl (Or.inl (Or.inl (Or.inr (Or.inl q))))
            · exact Or.inl (Or.inl (Or.inl (Or.inr (Or.inr q))))
            · exact Or.inr q
        · refine (((mb2.trans (show Mb M2 M4 (sec (ml Dm k L') 5) from g12)).trans ((Mb.ot o58).trans z2.2)).trans ((show Mb M7 M8 (sec (Rz 240 43 Dm k) 9) from j12).trans ((Mb.ot (D' := Tz 240 43 M8 k (-1)) (T_ot (by decide))).trans u2.2))).iff (fun s _ _ => ?_)
          constructor
          · rintro (((q | q) | (q | q)) | (q | (q | q)))
            · exact Or.inr (Or.inl q)
            · exact Or.inr (Or.inl q)
            · exact q.elim
            · exact Or.inr (Or.inr q)
            · exact Or.inr (Or.inr q)
            · exact q.elim
            · exact Or.inl q
          · rintro (q | q | q)
            · exact Or.inr (Or.inr (Or.inr q))
            · exact Or.inl (Or.inl (Or.inl q))
            · exact Or.inr (Or.inl q)
        · exact lgM6.trans ((Lk.of58 z2).lg.trans ((Lg.give j6 j7 j9).trans ((Lk.T240 (Or.inr rfl) hk).lg.trans (Lk.of58 u2).lg)))
        · rw [u2.1 32 (by decide), T_ot (by decide), j8, z2.1 32 (by decide), o32, g8, ot2 32 (by decide)]; omega
        · have hl := leaves D8 M9 q2 q6 wr8 (fun u c1 c2 c3 => us8 u c1 c2 (c3 hn2))
          refine ⟨by omega, ?_, hl, fun q => by omega⟩
          rw [un8, if_pos rfl, if_neg (by omega), if_pos (by omega), (q2 0 (by omega) (by omega)).1]
        · rw [un8, if_neg c1, un6, if_neg (by have := c3 (by omega); omega), if_neg (by have := c3 (by omega); omega), un3 i c2]
      · -- two leaves or more are left
        obtain ⟨M9, u1, u2⟩ := entEnd_m hk (D := M7) (p := p) (by rw [R_cg (z2.1 40 (by decide)), R_cg (ot6 40 (by decide)), hp]) (by rw [R_cg (z2.1 33 (by decide)), R_cg o33, g3.2.2.2 p (by omega) (by omega), us4 p (by omega) (by omega)]; exact hps) ⟨mp2, mp3⟩
        obtain ⟨q1, q2, q3, q4, q5, q6⟩ := fin M9 (fun b hb => by rw [u2.1 b (nin hb (by decide)), z2.1 b (nin hb (by decide))])
        have us6 : ∀ u, 0 < Rz 1024 3 Dc u → u ≠ ml Dm k L' → Rz 1024 3 D6 u = Rz 1024 3 Dc u := fun u c1 c2 => by rw [R_cg (fr6 3 (by decide) (by decide))]; exact us4 u c1 c2
        have ix9 : Rz 240 43 M9 k = Rz 240 43 Dm k := by rw [R_cg (u2.1 43 (by decide)), R_cg (z2.1 43 (by decide)), ix6]
        refine ⟨D6, M9, (fun s => sec p 6 s ∨ sec (ml Dm k L') 5 s ∨ sec (Rz 240 43 Dm k) 9 s), 5, n - 1, L', ?_, ?_, ?_, fun b hb => ?_, fun j hj => ?_, fun s a b => ?_, ?_, ?_, ?_, q5, q3, ?_, q4, q1, ⟨l1, l2⟩, Or.inr ⟨rfl, fun i a b => (q2 i a b).1, fun _ => ix9, fun u c1 c2 _ => us6 u c1 c2⟩, fun i c1 c2 c3 => ?_⟩
        · rw [cls, if_neg hc2, g1, bnd_ok, hrl, if_pos (by omega), bnd_ok]; rfl
        · rw [mdl2, if_pos (by omega), z1, bnd_ok, rdA_R ⟨hk.1, by omega, by decide⟩, R_cg (z2.1 42 (by decide)), n6, w32_of (z := n - 1) (by omega), if_neg (by omega)]
          exact u1
        · exact g3.cong (fun u => R_cg (fr6 3 (by decide) (by decide)) u) (by rw [fr6 2 (by decide) (by decide)]) (fun u _ _ => by rw [R_cg (u2.1 33 (by decide)), R_cg (z2.1 33 (by decide)), R_cg o33]) (by rw [u2.1 34 (by decide), z2.1 34 (by decide), o34])
        · rw [fr6 b (nin hb (by decide)) (nin hb (by decide)), g4 b (nsub hb (by decide)), ef3.1 b (nin hb (by decide)) (nin hb (by decide))]
        · rw [y2.2.1 j hj, D67, g5 j hj, ef3.2.1 j hj]
        · rw [y2.2.2 s a b, D67, g11 s a b, ef3.2.2 s a b]
          constructor
          · rintro (((q | q) | q) | q)
            · exact Or.inl q
            · rcases q with q | q
              · exact Or.inr (Or.inl q)
              · exact Or.inr (Or.inr (Or.inl q))
            · exact Or.inr (Or.inr (Or.inl q))
            · exact Or.inr (Or.inr (Or.inr q))
          · rintro (q | q | q | q)
            · exact Or.inl (Or.inl (Or.inl q))
            · exact Or.inl (Or.inl (Or.inr (Or.inl q)))
            · exact Or.inl (Or.inl (Or.inr (Or.inr q)))
            · exact Or.inr q
        · refine (((mb2.trans (show Mb M2 M4 (sec (ml Dm k L') 5) from g12)).trans ((Mb.ot o58).trans z2.2)).trans u2.2).iff (fun s _ _ => ?_)
          constructor
          · rintro (((q | q) | (q | q)) | q)
            · exact Or.inr (Or.inl q)
            · exact Or.inr (Or.inl q)
            · exact q.elim
            · exact Or.inr (Or.inr q)
            · exact Or.inl q
          · rintro (q | q | q)
            · exact Or.inr q
            · exact Or.inl (Or.inl (Or.inl q))
            · exact Or.inl (Or.inr (Or.inr q))
        · exact lgM6.trans ((Lk.of58 z2).lg.trans (Lk.of58 u2).lg)
        · rw [u2.1 32 (by decide), z2.1 32 (by decide), o32, g8, ot2 32 (by decide)]
        · have hl := leaves D6 M9 q2 q6 wr6 (fun u c1 c2 _ => us6 u c1 c2)
          refine ⟨by omega, ?_, hl, fun q => ?_⟩
          · rw [un6, if_neg (by omega), if_neg (by omega), un3 _ (by omega), ix9, if_neg (by omega), if_neg (by omega), hLC.2.1, if_neg (by omega), if_neg hn1]
          · rw [ix9]
            refine ⟨by rw [R_cg (fr6 3 (by decide) (by decide))]; exact hix4, by rw [un6, if_pos rfl], fun i a b => by rw [un6x i a b, (q2 i a b).1]⟩
        · rw [un6, if_neg (by have := c3 (by omega); omega), if_neg (by have := c3 (by omega); omega), un3 i c2]
