/-! an entry comes into a list of the class: the four ways -/
theorem sm_upd {c : Int → Int} {L v : Int} (hL : 0 ≤ L) : ∀ (n : Nat) (i : Int), i = n → sm (uI c L v) i = if i ≤ L then sm c i else sm c i + (v - c L) := by
  intro n
  induction n with
  | zero =>
    intro i hi
    rw [if_pos (by omega), show i = 0 by omega, sm_0, sm_0]
  | succ n ih =>
    intro i hi
    have h1 := ih (i - 1) (by omega)
    rw [sm_p (by omega), h1, sm_p (f := c) (i := i) (by omega)]
    unfold uI
    by_cases g : i - 1 = L
    · rw [if_pos g, if_pos (by omega), if_neg (by omega), g]; omega
    · rw [if_neg g]
      by_cases g2 : i ≤ L
      · rw [if_pos (by omega), if_pos g2]
      · rw [if_neg (by omega), if_neg g2]; omega
theorem sm_spl {c : Int → Int} {L : Int} (hL : 0 ≤ L) (h4 : c L = 4) : ∀ (n : Nat) (i : Int), i = n → sm (splF c L) i = if i ≤ L then sm c i else if i = L + 1 then sm c L + 3 else sm c (i - 1) + 1 := by
  intro n
  induction n with
  | zero =>
    intro i hi
    rw [if_pos (by omega), show i = 0 by omega, sm_0, sm_0]
  | succ n ih =>
    intro i hi
    have h1 := ih (i - 1) (by omega)
    rw [sm_p (by omega), h1]
    unfold splF
    by_cases g : i ≤ L
    · rw [if_pos (by omega), if_pos (by omega), if_pos g, sm_p (f := c) (i := i) (by omega)]
    · rw [if_neg g]
      by_cases g1 : i = L + 1
      · rw [if_pos (by omega), if_neg (by omega), if_pos (by omega), if_pos g1, show i - 1 = L by omega]
      · rw [if_neg g1]
        by_cases g2 : i = L + 2
        · rw [if_neg (show ¬ i - 1 ≤ L by omega), if_pos (show i - 1 = L + 1 by omega), if_neg (show ¬ i - 1 < L by omega), if_neg (show ¬ i - 1 = L by omega), if_pos (show i - 1 = L + 1 by omega), show i - 1 = L + 1 by omega, sm_s hL, h4]; omega
        · rw [if_neg (show ¬ i - 1 ≤ L by omega), if_neg (show ¬ i - 1 = L + 1 by omega), if_neg (show ¬ i - 1 < L by omega), if_neg (show ¬ i - 1 = L by omega), if_neg (show ¬ i - 1 = L + 1 by omega), sm_p (f := c) (i := i - 1) (by omega)]; omega
theorem insF_lo {E : Int → Int} {t x j : Int} (h : j < t) : insF E t x j = E j := if_pos h
theorem insF_eq {E : Int → Int} {t x : Int} : insF E t x t = x := by unfold insF; rw [if_neg (by omega), if_pos rfl]
theorem insF_hi {E : Int → Int} {t x j : Int} (h : t < j) : insF E t x j = E (j - 1) := by unfold insF; rw [if_neg (by omega), if_neg (by omega)]
/-- a leaf that stays as it was -/
def sz_un (D D' : DD) (q k : Int) : Prop := Rz 1024 3 D' q = 5 ∧ Rz 1024 4 D' q = k ∧ ∀ j, 0 ≤ j → j < 4 → Rz 1024 4 D' (q + 1 + j) = Rz 1024 4 D (q + 1 + j)
section PUT2
variable {D : DD} {e p n ix x L a fr : Int} {lp c E : Int → Int}
/-- into no leaf: the first one -/
theorem putIn_A {g : Int} (hT : Til (Rz 1024 3 D) e) (he : e ≤ 1024) (hp : Rz 1024 3 D p = 6) (h : LC (Rz 1024 4 D) (Rz 1024 3 D) (Rz 1024 4 D (p + 2)) n lp c E ix) (hn : n = 0) (hfr : 0 ≤ fr ∧ fr < 6) (hg : Rz 6 9 D fr = g) (hgs : Rz 1024 3 D g = 5) :
    ∃ D', pL_putIn p x fr D = okR 0 D' ∧ Ef D D' (sec p 6) ∧ LC (Rz 1024 4 D') (Rz 1024 3 D') (Rz 1024 4 D' (p + 2)) 1 (uI lp 0 g) (uI c 0 1) (insF E 0 x) ix ∧ (∀ i, i ≠ p + 2 → (i < g ∨ g + 5 ≤ i) → Rz 1024 4 D' i = Rz 1024 4 D i) := by
  have hpp := hT.1 p (by omega)
  have hgp := hT.1 g (by omega)
  have hdis := hT.dis (u := p) (v := g) (by omega) (by omega) (fun z => by rw [z] at hp; omega)
  rw [hp, hgs] at hdis
  obtain ⟨D1, m1, m2⟩ := mark_class (D := D) hp (by omega) (by omega) (by omega)
  have hlc := leafCount_c h hT he (p := p) (by omega) rfl
  have hl : pL_leafCount p D1 = 0 := by
    have e4 := fun u => m2.un u
    have e3 : ∀ u, Rz 1024 3 D1 u = Rz 1024 3 D u := fun u => R_cg (m2.1 3 (by decide)) u
    rw [← hn, ← hlc]
    unfold pL_leafCount pI_unitAt pL_isIndex pI_itemCount
    simp only [ltR, rd_R (n := 1024) (a := 4) (i := p + 2) (D := D1) (by omega), rd_R (n := 1024) (a := 4) (i := p + 2) (D := D) (by omega), e4]
    have h2 := h.2.1
    rw [if_pos hn] at h2
    rw [h2, w32_k0, if_pos rfl, if_pos rfl]
  have hg1 : pC_got fr D1 = g := by
    unfold pC_got
    rw [rd_R (by omega), R_cg (m2.1 9 (by decide)), hg]
  have i1 : Rz 1024 4 (Tz 1024 4 D1 g 0) g = 0 := R_T_eq ⟨by omega, by omega⟩
  obtain ⟨D2, k1, k2, k3⟩ := insert_c (D := Tz 1024 4 D1 g 0) (q := g) (m := 0) (c := 0) (x := x) (by omega) (by omega) (by omega) i1
  unfold pL_putIn
  rw [m1, bnd_ok, hl, w32_k0, if_pos rfl, hg1]
  simp only [ltR, pI_putUnit, gD]
  rw [sto_T (by omega), k1, bnd_ok, sto_T (by omega)]
  have un' : ∀ i, Rz 1024 4 (Tz 1024 4 D2 (p + 2) g) i = if i = p + 2 then g else if i = g then 1 else if i = g + 1 then x else Rz 1024 4 D i := fun i => by
    by_cases q0 : i = p + 2
    · rw [if_pos q0, q0, R_T_eq ⟨by omega, by omega⟩]
    · rw [if_neg q0, R_T_ne q0, k3]
      by_cases q1 : i = g
      · rw [if_pos q1, if_pos q1]; rfl
      · rw [if_neg q1, if_neg q1, Int.add_zero]
        by_cases q2 : i = g + 1
        · rw [if_pos q2, if_pos q2]
        · rw [if_neg q2, if_neg q2, if_neg (by omega), R_T_ne q1, m2.un]
  have ef : Ef D (Tz 1024 4 D2 (p + 2) g) (sec p 6) := (m2.ef.trans (Ef.of4 (D' := Tz 1024 4 D2 (p + 2) g) (fun b hb => by rw [T_ot hb, k2 b hb, T_ot hb]))).iff (fun t _ _ => by simp)
  refine ⟨_, rfl, ef, ⟨by omega, ?_, fun i a b => ?_, fun q => by omega⟩, fun i q1 q2 => ?_⟩
  · rw [un', if_pos rfl, if_neg (by omega), if_pos rfl, uI_eq]
  · have : i = 0 := by omega
    subst this
    rw [uI_eq, uI_eq, ef.sz, hgs]
    refine ⟨rfl, ?_, by omega, fun j a b => ?_⟩
    · rw [un', if_neg (by omega), if_pos rfl]
    · have : j = 0 := by omega
      subst this
      rw [un', if_neg (by omega), if_neg (by omega), if_pos (by omega), sm_0, Int.add_zero, insF_eq]
  · rw [un', if_neg q1, if_neg (by omega), if_neg (by omega)]
/-- into a leaf with place -/
theorem putIn_B (hT : Til (Rz 1024 3 D) e) (he : e ≤ 1024) (hp : Rz 1024 3 D p = 6) (h : LC (Rz 1024 4 D) (Rz 1024 3 D) (Rz 1024 4 D (p + 2)) n lp c E ix) (hinj : ∀ i j, 0 ≤ i → i < n → 0 ≤ j → j < n → lp i = lp j → i = j) (hE : ∀ j, 0 ≤ j → j < sm c n → 0 ≤ E j ∧ E j ≤ 100000000) (hx : 0 ≤ x ∧ x ≤ 100000000)
    (hn : 1 ≤ n) (hL : LF c E n x L) (h4 : c L < 4) (ha : 0 ≤ a ∧ a ≤ c L) (h1 : ∀ j, 0 ≤ j → j < a → E (sm c L + j) < x) (h2 : ∀ j, a ≤ j → j < c L → x ≤ E (sm c L + j)) :
    ∃ D', pL_putIn p x fr D = okR 0 D' ∧ Ef D D' (fun t => sec p 6 t ∨ sec (lp L) 5 t) ∧ LC (Rz 1024 4 D') (Rz 1024 3 D') (Rz 1024 4 D' (p + 2)) n lp (uI c L (c L + 1)) (insF E (sm c L + a) x) ix ∧ (∀ i, (i < lp L ∨ lp L + 5 ≤ i) → Rz 1024 4 D' i = Rz 1024 4 D i) := by
  have hL0 : 0 ≤ L ∧ L < n := by have := hL.1; omega
  obtain ⟨s1, s2, s3, s4⟩ := h.2.2.1 L hL0.1 hL0.2
  have hpp := hT.1 p (by omega)
  have hq := hT.1 (lp L) (by omega)
  have hdis := hT.dis (u := p) (v := lp L) (by omega) (by omega) (fun z => by rw [z] at hp; omega)
  rw [hp, s1] at hdis
  obtain ⟨D1, m1, m2⟩ := mark_class (D := D) hp (by omega) (by omega) (by omega)
  have ef1 := m2.ef
  have hT1 := ef1.til hT
  have hLC1 : LC (Rz 1024 4 D1) (Rz 1024 3 D1) (Rz 1024 4 D1 (p + 2)) n lp c E ix := by
    rw [show Rz 1024 4 D1 = Rz 1024 4 D from funext m2.un, show Rz 1024 3 D1 = Rz 1024 3 D from funext ef1.sz]
    exact h
  obtain ⟨L', f1, f2⟩ := leafFor_c hLC1 hT1 he (p := p) (by omega) rfl hE hx
  have := f2.uniq hL
  subst this
  obtain ⟨D2, m3, m4⟩ := mark_class (D := D1) (p := lp L') (n := 5) (by rw [ef1.sz]; exact s1) (by omega) (by omega) (by omega)
  have ef2 := ef1.trans m4.ef
  have un2 : ∀ u, Rz 1024 4 D2 u = Rz 1024 4 D u := fun u => (m4.un u).trans (m2.un u)
  have ah : pL_entriesAhead (lp L') x D2 = okR a D2 := aheadq (F := fun j => E (sm c L' + j)) (k := c L') ⟨by omega, by omega⟩ (by omega) (by rw [un2]; exact s2) (fun j j0 j1 => by
    rw [un2, s4 j j0 j1]
    have hst := sm_step (f := c) (i := L') (j := n) hL0.1 hL0.2 (fun k a b => by have := (h.2.2.1 k (by omega) b).2.2.1; omega)
    have ht := h.tot (i := L') hL0.1 (by omega)
    exact ⟨rfl, hE _ (by omega) (by omega)⟩) hx ha h1 h2
  obtain ⟨D3, k1, k2, k3⟩ := insert_c (D := D2) (q := lp L') (m := a) (c := c L') (x := x) (by omega) ha (by omega) (by rw [un2]; exact s2)
  unfold pL_putIn
  rw [m1, bnd_ok, leafCount_c hLC1 hT1 he (by omega) rfl, w32_of (z := n) (by have := h.1; omega), if_neg (by omega), f1, bnd_ok]
  simp only [ltR]
  rw [leafNumbered_c hLC1 hT1 he (by omega) rfl hL0.1 hL0.2, m3, bnd_ok]
  have hic : pI_itemCount (lp L') D2 = c L' := by
    unfold pI_itemCount
    rw [rd_R (by omega), un2, s2]
  rw [hic, w32_of (z := c L') (by omega), if_pos h4, ah, bnd_ok, k1, bnd_ok]
  have ef : Ef D D3 (fun t => sec p 6 t ∨ sec (lp L') 5 t) := (ef2.trans (Ef.of4 k2)).iff (fun t _ _ => by simp)
  have un3 : ∀ i, (i < lp L' ∨ lp L' + 5 ≤ i) → Rz 1024 4 D3 i = Rz 1024 4 D i := fun i hi => by
    rw [k3, if_neg (by omega), if_neg (by omega), if_neg (by omega), un2]
  have hsm := fun (i : Int) (hi : 0 ≤ i) => sm_upd (c := c) (L := L') (v := c L' + 1) hL0.1 i.toNat i (by omega)
  have hstep := fun (i j : Int) (a0 : 0 ≤ i) (b0 : i < j) (c0 : j ≤ n) => sm_step (f := c) (i := i) (j := j) a0 b0 (fun k x y => by have := (h.2.2.1 k (by omega) (by omega)).2.2.1; omega)
  refine ⟨D3, rfl, ef, ⟨h.1, ?_, fun i b0 b1 => ?_, fun q => ?_⟩, un3⟩
  · rw [un3 (p + 2) (by omega)]
    exact h.2.1
  · obtain ⟨r1, r2, r3, r4⟩ := h.2.2.1 i b0 b1
    by_cases g : i = L'
    · subst g
      rw [ef.sz, uI_eq]
      refine ⟨s1, ?_, by omega, fun j j0 j1 => ?_⟩
      · rw [k3, if_pos rfl]
      · rw [k3, if_neg (by omega), hsm i b0, if_pos (Int.le_refl _)]
        by_cases z : j < a
        · rw [if_neg (by omega), if_neg (by omega), insF_lo (by omega), un2]
          exact r4 j j0 (by omega)
        · by_cases z2 : j = a
          · rw [if_pos (by omega), z2, insF_eq]
          · rw [if_neg (by omega), if_pos (by omega), insF_hi (by omega), un2, show lp i + 1 + j - 1 = lp i + 1 + (j - 1) by omega, r4 (j - 1) (by omega) (by omega)]
            congr 1
            omega
    · have hne : lp i ≠ lp L' := fun z => g (hinj i L' b0 b1 hL0.1 hL0.2 z)
      have hd2 := hT.dis (u := lp i) (v := lp L') (by omega) (by omega) hne
      rw [r1, s1] at hd2
      rw [ef.sz, uI_ne g]
      refine ⟨r1, ?_, r3, fun j j0 j1 => ?_⟩
      · rw [un3 _ (by omega)]; exact r2
      · rw [un3 _ (by omega), r4 j j0 j1, hsm i b0]
        by_cases z : i ≤ L'
        · have := hstep i L' b0 (by omega) (by omega)
          rw [if_pos z, insF_lo (by omega)]
        · have := hstep L' i hL0.1 (by omega) (by omega)
          rw [if_neg z, insF_hi (by omega)]
          congr 1
          omega
  · obtain ⟨r1, r2, r3⟩ := h.2.2.2 q
    have hd2 := hT.dis (u := ix) (v := lp L') (by omega) (by omega) (fun z => by rw [z] at r1; omega)
    rw [r1, s1] at hd2
    rw [ef.sz]
    refine ⟨r1, ?_, fun i b0 b1 => ?_⟩
    · rw [un3 _ (by omega)]; exact r2
    · rw [un3 _ (by have := h.1; omega)]; exact r3 i b0 b1
/-- a leaf comes in behind a leaf; the index may be new -/
theorem insertLeaf_c {nl ix' : Int} (hT : Til (Rz 1024 3 D) e) (he : e ≤ 1024) (hp : Rz 1024 3 D p = 6) (h : LC (Rz 1024 4 D) (Rz 1024 3 D) (Rz 1024 4 D (p + 2)) n lp c E ix) (hn : 1 ≤ n ∧ n < 8) (hL0 : 0 ≤ L ∧ L < n) (hfr : 0 ≤ fr ∧ fr < 5)
    (hix : (n = 1 ∧ Rz 6 9 D fr = ix' ∧ Rz 6 9 D (fr + 1) = nl) ∨ (2 ≤ n ∧ ix = ix' ∧ Rz 6 9 D fr = nl)) (hxs : Rz 1024 3 D ix' = 9) :
    ∃ D', pL_insertLeafBehind p L fr D = okR nl D' ∧ Ef D D' (sec ix' 9) ∧ Rz 1024 4 D' (p + 2) = ix' ∧ Rz 1024 4 D' ix' = n + 1 ∧ (∀ i, 0 ≤ i → i < n + 1 → Rz 1024 4 D' (ix' + 1 + i) = insF lp (L + 1) nl i) ∧ (∀ i, i ≠ p + 2 → (i < ix' ∨ ix' + 9 ≤ i) → Rz 1024 4 D' i = Rz 1024 4 D i) := by
  have hpp := hT.1 p (by omega)
  have hxp := hT.1 ix' (by omega)
  have hdis := hT.dis (u := p) (v := ix') (by omega) (by omega) (fun z => by rw [z] at hp; omega)
  rw [hp, hxs] at hdis
  unfold pL_insertLeafBehind pI_unitAt
  simp only [ltR, jnR]
  rcases hix with ⟨w1, w2, w3⟩ | ⟨w1, w2, w3⟩
  · have hL : L = 0 := by omega
    subst hL
    obtain ⟨s1, s2, s3, s4⟩ := h.2.2.1 0 (by omega) (by omega)
    have hl0 := hT.1 (lp 0) (by omega)
    have hh : Rz 1024 4 D (p + 2) = lp 0 := by rw [h.2.1, if_neg (by omega), if_pos w1]
    have i1 : Rz 1024 4 (Tz 1024 4 D ix' 0) ix' = 0 := R_T_eq ⟨by omega, by omega⟩
    obtain ⟨D1, k1, k2, k3⟩ := insert_c (D := Tz 1024 4 D ix' 0) (q := ix') (m := 0) (c := 0) (x := lp 0) (by omega) (by omega) (by omega) i1
    have un1 : ∀ i, Rz 1024 4 D1 i = if i = ix' then 1 else if i = ix' + 1 then lp 0 else Rz 1024 4 D i := fun i => by
      rw [k3]
      by_cases q : i = ix'
      · rw [if_pos q, if_pos q]; rfl
      · rw [if_neg q, if_neg q, Int.add_zero]
        by_cases q2 : i = ix' + 1
        · rw [if_pos q2, if_pos q2]
        · rw [if_neg q2, if_neg q2, if_neg (by omega), R_T_ne q]
    have un2 : ∀ i, Rz 1024 4 (Tz 1024 4 D1 (p + 2) ix') i = if i = p + 2 then ix' else if i = ix' then 1 else if i = ix' + 1 then lp 0 else Rz 1024 4 D i := fun i => by
      by_cases q : i = p + 2
      · rw [if_pos q, q, R_T_eq ⟨by omega, by omega⟩]
      · rw [if_neg q, R_T_ne q, un1]
    obtain ⟨D3, k4, k5, k6⟩ := insert_c (D := Tz 1024 4 D1 (p + 2) ix') (q := ix') (m := 1) (c := 1) (x := nl) (by omega) (by omega) (by omega) (by rw [un2, if_neg (by omega), if_pos rfl])
    have fr4 : ∀ b, b ≠ 4 → D3 b = D b := fun b hb => by rw [k5 b hb, T_ot hb, k2 b hb, T_ot hb]
    obtain ⟨D4, m1, m2⟩ := mark_class (D := D3) (p := ix') (n := 9) (by rw [R_cg (fr4 3 (by decide))]; exact hxs) (by omega) (by omega) (by omega)
    have hgot : pC_got (fr + 1) (Tz 1024 4 D1 (p + 2) ix') = nl := by
      unfold pC_got
      rw [rd_R (by omega), R_T_ot (by decide), R_cg (k2 9 (by decide)), R_T_ot (by decide), w3]
    have hisx : pL_isIndex (lp 0) D = 0 := by
      unfold pL_isIndex
      rw [rd_R (by omega), s1, if_neg (by decide)]
    rw [rd_R (by omega), hh, hisx, if_pos rfl]
    simp only [pI_putUnit, gD]
    rw [show pC_got fr D = ix' by unfold pC_got; rw [rd_R (by omega), w2], sto_T (by omega), k1, bnd_ok, sto_T (by omega), hgot, show (0 : Int) + 1 = 1 from rfl, k4, bnd_ok, m1, bnd_ok]
    have un4 : ∀ i, Rz 1024 4 D4 i = if i = ix' then 2 else if i = ix' + 2 then nl else if i = p + 2 then ix' else if i = ix' + 1 then lp 0 else Rz 1024 4 D i := fun i => by
      rw [m2.un, k6]
      by_cases q : i = ix'
      · rw [if_pos q, if_pos q]; rfl
      · rw [if_neg q, if_neg q]
        by_cases q2 : i = ix' + 2
        · rw [if_pos (by omega), if_pos q2]
        · rw [if_neg (by omega), if_neg (by omega), if_neg q2, un2]
          by_cases q3 : i = p + 2
          · rw [if_pos q3, if_pos q3]
          · rw [if_neg q3, if_neg q, if_neg q3]
    refine ⟨D4, rfl, ((Ef.of4 fr4).trans m2.ef).iff (fun t _ _ => by simp), ?_, ?_, fun i b0 b1 => ?_, fun i q1 q2 => ?_⟩
    · rw [un4, if_neg (by omega), if_neg (by omega), if_pos rfl]
    · rw [un4, if_pos rfl]; omega
    · by_cases g : i = 0
      · rw [g, un4, if_neg (by omega), if_neg (by omega), if_neg (by omega), if_pos (by omega), insF_lo (by omega)]
      · have : i = 1 := by omega
        rw [this, un4, if_neg (by omega), if_pos (by omega)]
        exact insF_eq.symm
    · rw [un4, if_neg (by omega), if_neg (by omega), if_neg q1, if_neg (by omega)]
  · subst w2
    obtain ⟨s1, s2, s3⟩ := h.2.2.2 w1
    have hh : Rz 1024 4 D (p + 2) = ix := by rw [h.2.1, if_neg (by omega), if_neg (by omega)]
    obtain ⟨D3, k4, k5, k6⟩ := insert_c (D := D) (q := ix) (m := L + 1) (c := n) (x := nl) (by omega) (by omega) (by omega) s2
    obtain ⟨D4, m1, m2⟩ := mark_class (D := D3) (p := ix) (n := 9) (by rw [R_cg (k5 3 (by decide))]; exact s1) (by omega) (by omega) (by omega)
    have hisx : pL_isIndex ix D = 1 := by
      unfold pL_isIndex
      rw [rd_R (by omega), s1, if_pos (by decide)]
    rw [rd_R (by omega), hh, hisx, if_neg (by decide), show pC_got fr D = nl by unfold pC_got; rw [rd_R (by omega), w3], k4, bnd_ok, m1, bnd_ok]
    refine ⟨D4, rfl, ((Ef.of4 k5).trans m2.ef).iff (fun t _ _ => by simp), ?_, ?_, fun i b0 b1 => ?_, fun i q1 q2 => ?_⟩
    · rw [m2.un, k6, if_neg (by omega), if_neg (by omega), if_neg (by omega), hh]
    · rw [m2.un, k6, if_pos rfl]
    · rw [m2.un, k6, if_neg (by omega)]
      by_cases g : i = L + 1
      · rw [if_pos (by omega), g, insF_eq]
      · rw [if_neg (by omega)]
        by_cases g2 : i < L + 1
        · rw [if_neg (by omega), insF_lo g2]
          exact s3 i b0 (by omega)
        · rw [if_pos (by omega), insF_hi (by omega), show ix + 1 + i - 1 = ix + 1 + (i - 1) by omega]
          exact s3 (i - 1) (by omega) (by omega)
    · rw [m2.un, k6, if_neg (by omega), if_neg (by omega), if_neg (by omega)]
/-- into a full leaf: it is split -/
theorem putIn_S {nl ix' : Int} (hT : Til (Rz 1024 3 D) e) (he : e ≤ 1024) (hp : Rz 1024 3 D p = 6) (h : LC (Rz 1024 4 D) (Rz 1024 3 D) (Rz 1024 4 D (p + 2)) n lp c E ix) (hinj : ∀ i j, 0 ≤ i → i < n → 0 ≤ j → j < n → lp i = lp j → i = j) (hE : ∀ j, 0 ≤ j → j < sm c n → 0 ≤ E j ∧ E j ≤ 100000000) (hx : 0 ≤ x ∧ x ≤ 100000000)
    (hn : 1 ≤ n ∧ n < 8) (hL : LF c E n x L) (h4 : c L = 4) (ha : 0 ≤ a ∧ a ≤ 4) (h1 : ∀ j, 0 ≤ j → j < a → E (sm c L + j) < x) (h2 : ∀ j, a ≤ j → j < 4 → x ≤ E (sm c L + j)) (hfr : 0 ≤ fr ∧ fr < 5)
    (hix : (n = 1 ∧ Rz 6 9 D fr = ix' ∧ Rz 6 9 D (fr + 1) = nl) ∨ (2 ≤ n ∧ ix = ix' ∧ Rz 6 9 D fr = nl)) (hxs : Rz 1024 3 D ix' = 9) (hns : Rz 1024 3 D nl = 5) (hnl : ∀ i, 0 ≤ i → i < n → nl ≠ lp i) :
    ∃ D', pL_putIn p x fr D = okR 0 D' ∧ Ef D D' (fun t => sec p 6 t ∨ sec (lp L) 5 t ∨ sec ix' 9 t) ∧ LC (Rz 1024 4 D') (Rz 1024 3 D') (Rz 1024 4 D' (p + 2)) (n + 1) (insF lp (L + 1) nl) (splF c L) (insF E (sm c L + a) x) ix' ∧
      (∀ i, i ≠ p + 2 → (i < lp L ∨ lp L + 5 ≤ i) → (i < nl ∨ nl + 5 ≤ i) → (i < ix' ∨ ix' + 9 ≤ i) → Rz 1024 4 D' i = Rz 1024 4 D i) := by
  have hL0 : 0 ≤ L ∧ L < n := by have := hL.1; omega
  obtain ⟨s1, s2, s3, s4⟩ := h.2.2.1 L hL0.1 hL0.2
  have hpp := hT.1 p (by omega)
  have hq := hT.1 (lp L) (by omega)
  have hnp := hT.1 nl (by omega)
  have hxp := hT.1 ix' (by omega)
  have dp := fun (v : Int) (hv : 0 < Rz 1024 3 D v) (hne : p ≠ v) => hT.dis (u := p) (v := v) (by omega) hv hne
  have d1 := hT.dis (u := p) (v := lp L) (by omega) (by omega) (fun z => by rw [z] at hp; omega)
  have d2 := hT.dis (u := p) (v := nl) (by omega) (by omega) (fun z => by rw [z] at hp; omega)
  have d3 := hT.dis (u := p) (v := ix') (by omega) (by omega) (fun z => by rw [z] at hp; omega)
  have d4 := hT.dis (u := lp L) (v := nl) (by omega) (by omega) (Ne.symm (hnl L hL0.1 hL0.2))
  have d5 := hT.dis (u := lp L) (v := ix') (by omega) (by omega) (fun z => by rw [z] at s1; omega)
  have d6 := hT.dis (u := nl) (v := ix') (by omega) (by omega) (fun z => by rw [z] at hns; omega)
  rw [hp, s1] at d1
  rw [hp, hns] at d2
  rw [hp, hxs] at d3
  rw [s1, hns] at d4
  rw [s1, hxs] at d5
  rw [hns, hxs] at d6
  obtain ⟨D1, m1, m2⟩ := mark_class (D := D) hp (by omega) (by omega) (by omega)
  have ef1 := m2.ef
  have hT1 := ef1.til hT
  have hLC1 : LC (Rz 1024 4 D1) (Rz 1024 3 D1) (Rz 1024 4 D1 (p + 2)) n lp c E ix := by
    rw [show Rz 1024 4 D1 = Rz 1024 4 D from funext m2.un, show Rz 1024 3 D1 = Rz 1024 3 D from funext ef1.sz]
    exact h
  obtain ⟨L', f1, f2⟩ := leafFor_c hLC1 hT1 he (p := p) (by omega) rfl hE hx
  have := f2.uniq hL
  subst this
  obtain ⟨D2, m3, m4⟩ := mark_class (D := D1) (p := lp L') (n := 5) (by rw [ef1.sz]; exact s1) (by omega) (by omega) (by omega)
  have ef2 := ef1.trans m4.ef
  have hT2 := ef2.til hT
  have un2 : ∀ u, Rz 1024 4 D2 u = Rz 1024 4 D u := fun u => (m4.un u).trans (m2.un u)
  have hLC2 : LC (Rz 1024 4 D2) (Rz 1024 3 D2) (Rz 1024 4 D2 (p + 2)) n lp c E ix := by
    rw [show Rz 1024 4 D2 = Rz 1024 4 D from funext un2, show Rz 1024 3 D2 = Rz 1024 3 D from funext ef2.sz]
    exact h
  have e9 : ∀ i, Rz 6 9 D2 i = Rz 6 9 D i := fun i => R_cg (ef2.1 9 (by decide) (by decide)) i
  obtain ⟨D3, j1, j2, j3, j4, j5, j6⟩ := insertLeaf_c (nl := nl) (ix' := ix') (L := L') (fr := fr) hT2 he (by rw [ef2.sz]; exact hp) hLC2 hn hL0 hfr (by rw [e9, e9]; exact hix) (by rw [ef2.sz]; exact hxs)
  have ef3 := ef2.trans j2
  have hst := sm_step (f := c) (i := L') (j := n) hL0.1 hL0.2 (fun k a b => by have := (h.2.2.1 k (by omega) b).2.2.1; omega)
  have ht := h.tot (i := L') hL0.1 (by omega)
  obtain ⟨D4, k1, k2, k3, k4, k5, k6, k7⟩ := split_c (D := D3) (q := lp L') (t := nl) (x := x) (a := a) (F := fun j => E (sm c L' + j)) ⟨by omega, by omega⟩ ⟨by omega, by omega⟩ (by omega) (by rw [j6 _ (by omega) (by omega), un2, s2, h4])
    (fun j b0 b1 => by rw [j6 _ (by omega) (by omega), un2, s4 j b0 (by omega)]; exact ⟨rfl, hE _ (by omega) (by omega)⟩) hx ha h1 h2
  unfold pL_putIn
  rw [m1, bnd_ok, leafCount_c hLC1 hT1 he (by omega) rfl, w32_of (z := n) (by omega), if_neg (by omega), f1, bnd_ok]
  simp only [ltR]
  rw [leafNumbered_c hLC1 hT1 he (by omega) rfl hL0.1 hL0.2, m3, bnd_ok]
  have hic : pI_itemCount (lp L') D2 = 4 := by
    unfold pI_itemCount
    rw [rd_R (by omega), un2, s2, h4]
  rw [hic, if_neg (by decide), j1, bnd_ok, k1, bnd_ok]
  have ef : Ef D D4 (fun t => sec p 6 t ∨ sec (lp L') 5 t ∨ sec ix' 9 t) := (ef3.trans (Ef.of4 k2)).iff (fun t _ _ => by simp [or_assoc])
  have un4 : ∀ i, i ≠ p + 2 → (i < lp L' ∨ lp L' + 5 ≤ i) → (i < nl ∨ nl + 5 ≤ i) → (i < ix' ∨ ix' + 9 ≤ i) → Rz 1024 4 D4 i = Rz 1024 4 D i := fun i q1 q2 q3 q4 => by
    rw [k3 i q2 q3, j6 i q1 q4, un2]
  have hsm := fun (i : Int) (hi : 0 ≤ i) => sm_spl (c := c) (L := L') hL0.1 h4 i.toNat i (by omega)
  have hstep := fun (i j : Int) (a0 : 0 ≤ i) (b0 : i < j) (c0 : j ≤ n) => sm_step (f := c) (i := i) (j := j) a0 b0 (fun k x y => by have := (h.2.2.1 k (by omega) (by omega)).2.2.1; omega)
  have hins : ∀ j, insF (fun j => E (sm c L' + j)) a x j = insF E (sm c L' + a) x (sm c L' + j) := fun j => by
    unfold insF
    by_cases z : j < a
    · rw [if_pos z, if_pos (by omega)]
    · rw [if_neg z, if_neg (show ¬ sm c L' + j < sm c L' + a by omega)]
      by_cases z2 : j = a
      · rw [if_pos z2, if_pos (by omega)]
      · rw [if_neg z2, if_neg (show ¬ sm c L' + j = sm c L' + a by omega)]
        show E (sm c L' + (j - 1)) = _
        congr 1
        omega
  have old : ∀ i, 0 ≤ i → i < n → i ≠ L' → sz_un D D4 (lp i) (c i) := fun i b0 b1 g => by
    obtain ⟨r1, r2, r3, r4⟩ := h.2.2.1 i b0 b1
    have x1 := hT.dis (u := lp i) (v := lp L') (by omega) (by omega) (fun z => g (hinj i L' b0 b1 hL0.1 hL0.2 z))
    have x2 := hT.dis (u := lp i) (v := nl) (by omega) (by omega) (Ne.symm (hnl i b0 b1))
    have x3 := hT.dis (u := lp i) (v := ix') (by omega) (by omega) (fun z => by rw [z] at r1; omega)
    have x4 := hT.dis (u := lp i) (v := p) (by omega) (by omega) (fun z => by rw [z] at r1; omega)
    rw [r1, s1] at x1
    rw [r1, hns] at x2
    rw [r1, hxs] at x3
    rw [r1, hp] at x4
    exact ⟨by rw [ef.sz]; exact r1, by rw [un4 _ (by omega) (by omega) (by omega) (by omega)]; exact r2, fun j j0 j1 => un4 _ (by omega) (by omega) (by omega) (by omega)⟩
  refine ⟨D4, rfl, ef, ⟨by omega, ?_, fun i b0 b1 => ?_, fun q => ?_⟩, un4⟩
  · rw [k3 (p + 2) (by omega) (by omega), j3, if_neg (by omega), if_neg (by omega)]
  · by_cases g : i < L'
    · obtain ⟨r1, r2, r3, r4⟩ := h.2.2.1 i b0 (by omega)
      obtain ⟨o1, o2, o3⟩ := old i b0 (by omega) (by omega)
      have hc : splF c L' i = c i := if_pos g
      have := hstep i L' b0 g (by omega)
      rw [insF_lo (by omega), hc]
      refine ⟨o1, o2, r3, fun j j0 j1 => ?_⟩
      rw [o3 j j0 (by omega), r4 j j0 j1, hsm i b0, if_pos (by omega), insF_lo (by omega)]
    · by_cases g1 : i = L'
      · subst g1
        have hc : splF c i i = 3 := by unfold splF; rw [if_neg (by omega), if_pos rfl]
        rw [insF_lo (by omega), hc, ef.sz]
        refine ⟨s1, k4, by omega, fun j j0 j1 => ?_⟩
        rw [k6 j j0 j1, hins, hsm i b0, if_pos (Int.le_refl _)]
      · by_cases g2 : i = L' + 1
        · have hc : splF c L' i = 2 := by unfold splF; rw [if_neg (by omega), if_neg g1, if_pos g2]
          rw [hc, g2, insF_eq, ef.sz]
          refine ⟨hns, k5, by omega, fun j j0 j1 => ?_⟩
          rw [k7 j j0 j1, hins, hsm _ (by omega), if_neg (by omega), if_pos rfl]
          congr 1
          omega
        · obtain ⟨r1, r2, r3, r4⟩ := h.2.2.1 (i - 1) (by omega) (by omega)
          obtain ⟨o1, o2, o3⟩ := old (i - 1) (by omega) (by omega) (by omega)
          have hc : splF c L' i = c (i - 1) := by unfold splF; rw [if_neg (by omega), if_neg g1, if_neg g2]
          have := hstep L' (i - 1) hL0.1 (by omega) (by omega)
          rw [insF_hi (by omega), hc]
          refine ⟨o1, o2, r3, fun j j0 j1 => ?_⟩
          rw [o3 j j0 (by omega), r4 j j0 j1, hsm i b0, if_neg (by omega), if_neg g2, insF_hi (by omega)]
          congr 1
          omega
  · rw [ef.sz]
    refine ⟨hxs, ?_, fun i b0 b1 => ?_⟩
    · rw [k3 _ (by omega) (by omega), j4]
    · rw [k3 _ (by omega) (by omega), j5 i b0 b1]
end PUT2
