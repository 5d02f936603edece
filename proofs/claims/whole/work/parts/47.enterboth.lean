/-! an entry comes into a list, side by side -/
theorem sm_1 (f : Int → Int) : sm f 1 = f 0 := by
  have h := sm_s (f := f) (i := 0) (by omega)
  rw [sm_0, Int.zero_add, Int.zero_add] at h
  exact h
theorem MW.ins {D D' : DD} {k n' t x y N : Int} (h : MW D k) (hN : sm (mc D k) (Rz 240 42 D k) = N) (hn' : Rz 240 42 D' k = n') (hn8 : 1 ≤ n' ∧ n' ≤ 8) (hc' : ∀ i, 0 ≤ i → i < n' → 1 ≤ mc D' k i ∧ mc D' k i ≤ 4) (hN' : sm (mc D' k) n' = N + 1) (ht : 0 ≤ t ∧ t ≤ N)
    (hE : ∀ j, 0 ≤ j → j ≤ N → me D' k j = insF (me D k) t y j ∧ mn_ D' k j = insF (mn_ D k) t x j) (h1 : ∀ j, 0 ≤ j → j < t → rk (mn_ D k j) < rk x) (h2 : ∀ j, t ≤ j → j < N → rk x < rk (mn_ D k j)) (hx : 0 ≤ x ∧ x ≤ 9999) (hy : 0 ≤ y ∧ y < 80) :
    MW D' k ∧ ∀ j, 0 ≤ j → j ≤ N → mE D' k j = insF (mE D k) t (rk x * 80 + y) j := by
  subst hN
  have val : ∀ j, 0 ≤ j → j ≤ sm (mc D k) (Rz 240 42 D k) → (j < t ∧ me D' k j = me D k j ∧ mn_ D' k j = mn_ D k j) ∨ (j = t ∧ me D' k j = y ∧ mn_ D' k j = x) ∨ (t < j ∧ me D' k j = me D k (j - 1) ∧ mn_ D' k j = mn_ D k (j - 1)) := fun j a b => by
    obtain ⟨e1, e2⟩ := hE j a b
    rw [e1, e2]
    by_cases z : j < t
    · exact Or.inl ⟨z, insF_lo z, insF_lo z⟩
    · by_cases z2 : j = t
      · rw [z2]
        exact Or.inr (Or.inl ⟨rfl, insF_eq, insF_eq⟩)
      · exact Or.inr (Or.inr ⟨by omega, insF_hi (by omega), insF_hi (by omega)⟩)
  refine ⟨⟨?_, ?_, fun j a b => ?_, fun j j' a b c => ?_⟩, fun j a b => ?_⟩
  · rw [hn']; omega
  · rw [hn']; exact hc'
  · rw [hn', hN'] at b
    rcases val j a (by omega) with ⟨z, e1, e2⟩ | ⟨z, e1, e2⟩ | ⟨z, e1, e2⟩
    · rw [e1, e2]; exact h.2.2.1 j a (by omega)
    · rw [e1, e2]; exact ⟨hx, hy⟩
    · rw [e1, e2]; exact h.2.2.1 (j - 1) (by omega) (by omega)
  · rw [hn', hN'] at c
    rcases val j a (by omega) with ⟨z, e1, e2⟩ | ⟨z, e1, e2⟩ | ⟨z, e1, e2⟩ <;> rcases val j' (by omega) (by omega) with ⟨z', e1', e2'⟩ | ⟨z', e1', e2'⟩ | ⟨z', e1', e2'⟩
    · rw [e2, e2']; exact h.2.2.2 j j' a b (by omega)
    · rw [e2, e2']; exact h1 j a z
    · rw [e2, e2']; exact h.2.2.2 j (j' - 1) a (by omega) (by omega)
    · omega
    · omega
    · rw [e2, e2']; exact h2 (j' - 1) (by omega) (by omega)
    · omega
    · omega
    · rw [e2, e2']; exact h.2.2.2 (j - 1) (j' - 1) (by omega) (by omega) (by omega)
  · unfold mE
    rcases val j a b with ⟨z, e1, e2⟩ | ⟨z, e1, e2⟩ | ⟨z, e1, e2⟩
    · rw [e1, e2, insF_lo z]
    · rw [e1, e2, z, insF_eq]
    · rw [e1, e2, insF_hi z]
/-- the leaf is full, and what must then have been got -/
def Ent (Dc Dm : DD) (k n L fr ix' nl : Int) : Prop :=
  (n = 0 ∧ Rz 6 9 Dc fr = nl ∧ Rz 8 66 Dm fr = nl ∧ Rz 1024 3 Dc nl = 5) ∨ (1 ≤ n ∧ mc Dm k L < 4) ∨
  (n = 1 ∧ mc Dm k L = 4 ∧ Rz 6 9 Dc fr = ix' ∧ Rz 6 9 Dc (fr + 1) = nl ∧ Rz 8 66 Dm fr = ix' ∧ Rz 8 66 Dm (fr + 1) = nl ∧ Rz 1024 3 Dc ix' = 9 ∧ Rz 1024 3 Dc nl = 5 ∧ ∀ i, 0 ≤ i → i < n → nl ≠ ml Dm k i) ∨
  (2 ≤ n ∧ n < 8 ∧ mc Dm k L = 4 ∧ ix' = Rz 240 43 Dm k ∧ Rz 6 9 Dc fr = nl ∧ Rz 8 66 Dm fr = nl ∧ Rz 1024 3 Dc nl = 5 ∧ ∀ i, 0 ≤ i → i < n → nl ≠ ml Dm k i)
theorem isSplit_m {D : DD} {k x n L : Int} (hk : 0 ≤ k ∧ k < 80) (hn : Rz 240 42 D k = n) (hn8 : 0 ≤ n ∧ n ≤ 8) (hL : pM_leafFor k x D = okR L D) (hL0 : 0 ≤ L ∧ (L < n ∨ L = 0)) (hc : 1 ≤ n → 0 ≤ mc D k L ∧ mc D k L ≤ 4) : pM_isSplit k x D = okR (if 1 ≤ n ∧ mc D k L = 4 then 1 else 0) D := by
  unfold pM_isSplit
  rw [rdA_R ⟨hk.1, by omega, by decide⟩, hn, w32_of (z := n) (by omega)]
  by_cases g : 0 < n
  · have hc := hc (by omega)
    rw [if_pos g, hL, bnd_ok, rdA_R ⟨by omega, by omega, by decide⟩, show Rz 1920 45 D (8 * k + L) = mc D k L from rfl, w32_of (z := mc D k L) (by omega)]
    by_cases q : mc D k L = 4
    · rw [if_pos q, if_pos ⟨by omega, q⟩]
    · rw [if_neg q, if_neg (fun z => q z.2)]
  · rw [if_neg g, if_neg (fun z => g (by omega))]
theorem enter_both {Dc Dm : DD} {k p x y fr L a ix' nl n N : Int} (hC : CR Dc Dm) (hk : 0 ≤ k ∧ k < 80) (hp : Rz 240 40 Dm k = p) (hps : Rz 1024 3 Dc p = 6) (hn : Rz 240 42 Dm k = n) (hN : sm (mc Dm k) n = N) (hN31 : N ≤ 31)
    (hLC : LC (Rz 1024 4 Dc) (Rz 1024 3 Dc) (Rz 1024 4 Dc (p + 2)) n (ml Dm k) (mc Dm k) (mE Dm k) (Rz 240 43 Dm k)) (hinj : ∀ i j, 0 ≤ i → i < n → 0 ≤ j → j < n → ml Dm k i = ml Dm k j → i = j) (hW : MW Dm k)
    (hx : 0 ≤ x ∧ x ≤ 9999) (hy : 0 ≤ y ∧ y < 80) (hfr : 0 ≤ fr ∧ fr < 5) (hlf : pM_leafFor k x Dm = okR L Dm) (hL0 : 0 ≤ L ∧ (L < n ∨ L = 0)) (hL : LF (mc Dm k) (mE Dm k) n (rk x * 80 + y) L) (h0 : n = 0 → a = 0)
    (ha : 1 ≤ n → 0 ≤ a ∧ a ≤ mc Dm k L ∧ (∀ j, 0 ≤ j → j < sm (mc Dm k) L + a → rk (mn_ Dm k j) < rk x) ∧ ∀ j, sm (mc Dm k) L + a ≤ j → j < N → rk x < rk (mn_ Dm k j)) (hE : Ent Dc Dm k n L fr ix' nl) :
    ∃ Dc' Dm' P n', pL_putIn p (rk x * 80 + y) fr Dc = okR 0 Dc' ∧ pM_enters k y x fr Dm = okR 0 Dm' ∧ Ef Dc Dc' P ∧ Mb Dm Dm' (fun t => P t ∨ (n = 0 ∧ sec nl 5 t)) ∧ Lk Dm Dm' k ∧ MW Dm' k ∧ Rz 240 42 Dm' k = n' ∧
      LC (Rz 1024 4 Dc') (Rz 1024 3 Dc') (Rz 1024 4 Dc' (p + 2)) n' (ml Dm' k) (mc Dm' k) (mE Dm' k) (Rz 240 43 Dm' k) ∧ sm (mc Dm' k) n' = N + 1 ∧ (∀ j, 0 ≤ j → j ≤ N → me Dm' k j = insF (me Dm k) (sm (mc Dm k) L + a) y j ∧ mn_ Dm' k j = insF (mn_ Dm k) (sm (mc Dm k) L + a) x j) ∧
      ((n' = n ∧ (∀ i, ml Dm' k i = ml Dm k i) ∧ Rz 240 43 Dm' k = Rz 240 43 Dm k ∧ 1 ≤ n) ∨ (n' = n + 1 ∧ (n = 0 ∨ (1 ≤ n ∧ mc Dm k L = 4)) ∧ (∀ i, 0 ≤ i → i < n' → ml Dm' k i = insF (ml Dm k) (if n = 0 then 0 else L + 1) nl i) ∧ (2 ≤ n' → Rz 240 43 Dm' k = ix'))) ∧
      (∀ i, i ≠ p + 2 → (1 ≤ n → i < ml Dm k L ∨ ml Dm k L + 5 ≤ i) → (n' = n + 1 → i < nl ∨ nl + 5 ≤ i) → (n' = n + 1 → 2 ≤ n' → i < ix' ∨ ix' + 9 ≤ i) → Rz 1024 4 Dc' i = Rz 1024 4 Dc i) := by
  obtain ⟨hT, hsc, hsm, hss⟩ := id hC
  have he : 16 * Dc 2 4 ≤ 1024 := by omega
  have hn8 := hLC.1
  have m33 : ∀ u v, 0 < v → Rz 1024 3 Dc u = v → Rz 3072 33 Dm u = v ∧ 0 ≤ u ∧ u + v ≤ 1024 := fun u v hv hu => by
    have := hT.1 u (by omega)
    exact ⟨by rw [hss u (by omega) (by omega), hu], by omega, by omega⟩
  obtain ⟨mp1, mp2, mp3⟩ := m33 p 6 (by omega) hps
  have hEb : ∀ j, 0 ≤ j → j < sm (mc Dm k) n → 0 ≤ mE Dm k j ∧ mE Dm k j ≤ 100000000 := fun j b1 b2 => hW.ebd b1 (by rw [hn]; exact b2)
  have hX : 0 ≤ rk x * 80 + y ∧ rk x * 80 + y ≤ 100000000 := by have := rk_bd hx; omega
  have hLn : 1 ≤ n → L < n := fun q => by omega
  have hcL : 1 ≤ n → 0 ≤ mc Dm k L ∧ mc Dm k L ≤ 4 := fun q => by
    have := (hLC.2.2.1 L hL0.1 (hLn q)).2.2.1
    omega
  have hst := hLn |> fun _ => fun (q : 1 ≤ n) => sm_step (f := mc Dm k) (i := L) (j := n) hL0.1 (hLn q) (fun i b1 b2 => by have := (hLC.2.2.1 i (by omega) b2).2.2.1; omega)
  have hbdL : 0 ≤ sm (mc Dm k) L := (hLC.tot hL0.1 (by omega)).1
  -- what class and reference need of the entries
  have cmpE : 1 ≤ n → (∀ j, 0 ≤ j → j < a → mE Dm k (sm (mc Dm k) L + j) < rk x * 80 + y) ∧ (∀ j, a ≤ j → j < mc Dm k L → rk x * 80 + y ≤ mE Dm k (sm (mc Dm k) L + j)) := fun q => by
    obtain ⟨a1, a2, a3, a4⟩ := ha q
    have := hst q
    refine ⟨fun j b1 b2 => ?_, fun j b1 b2 => ?_⟩
    · have r := a3 (sm (mc Dm k) L + j) (by omega) (by omega)
      have e := (hW.2.2.1 (sm (mc Dm k) L + j) (by omega) (by rw [hn]; omega)).2
      unfold mE
      omega
    · have r := a4 (sm (mc Dm k) L + j) (by omega) (by omega)
      have e := (hW.2.2.1 (sm (mc Dm k) L + j) (by omega) (by rw [hn]; omega)).2
      unfold mE
      omega
  have hsp := isSplit_m (x := x) hk hn hn8 hlf hL0 hcL
  rcases hE with ⟨w1, w2, w3, w4⟩ | ⟨w1, w2⟩ | hS
  · -- no leaf yet
    have hL00 : L = 0 := by omega
    have ha0 := h0 w1
    subst hL00
    subst ha0
    obtain ⟨mn1, mn2, mn3⟩ := m33 nl 5 (by omega) w4
    obtain ⟨Dc', c1, c2, c3, c4⟩ := putIn_A (x := rk x * 80 + y) hT he hps hLC w1 (by omega) w2 w4
    have hN0 : N = 0 := by rw [← hN, w1, sm_0]
    have n22 : Rz 240 42 (Tz 1920 45 (Tz 1920 44 (Tz 240 42 Dm k 1) (8 * k) nl) (8 * k) 0) k = 1 := by rw [R_T_ot (by decide), R_T_ot (by decide), R_T_eq ⟨by omega, by omega⟩]
    have mc22 : ∀ i, mc (Tz 1920 45 (Tz 1920 44 (Tz 240 42 Dm k 1) (8 * k) nl) (8 * k) 0) k i = if i = 0 then 0 else mc Dm k i := fun i => by
      unfold mc
      rw [R_T]
      by_cases z : i = 0
      · rw [if_pos ⟨⟨by omega, by omega⟩, by omega⟩, if_pos z]
      · rw [if_neg (fun q => z (by omega)), if_neg z, R_T_ot (by decide), R_T_ot (by decide)]
    have ml22 : ∀ i, ml (Tz 1920 45 (Tz 1920 44 (Tz 240 42 Dm k 1) (8 * k) nl) (8 * k) 0) k i = if i = 0 then nl else ml Dm k i := fun i => by
      unfold ml
      rw [R_T_ot (by decide), R_T]
      by_cases z : i = 0
      · rw [if_pos ⟨⟨by omega, by omega⟩, by omega⟩, if_pos z]
      · rw [if_neg (fun q => z (by omega)), if_neg z, R_T_ot (by decide)]
    have o22 : ∀ b, b ∉ [42, 44, 45] → (Tz 1920 45 (Tz 1920 44 (Tz 240 42 Dm k 1) (8 * k) nl) (8 * k) 0) b = Dm b := fun b hb => by
      rw [T_ot (nin hb (by decide)), T_ot (nin hb (by decide)), T_ot (nin hb (by decide))]
    have lk22 : Lk Dm (Tz 1920 45 (Tz 1920 44 (Tz 240 42 Dm k 1) (8 * k) nl) (8 * k) 0) k := (Lk.T240 (Or.inl rfl) hk).trans ((Lk.T1920 (Or.inl rfl) hk (by omega)).trans (Lk.T1920 (Or.inr rfl) hk (by omega)))
    obtain ⟨D3, t1, t2, t3, t4, t5, t6, t7, t8⟩ := entTail_m hk (D := Tz 1920 45 (Tz 1920 44 (Tz 240 42 Dm k 1) (8 * k) nl) (8 * k) 0) (n := 1) (L := 0) (t := 0) (child := y) (x := x) (fr := fr) (q := nl) (N := 0) n22 (by omega) (by omega)
      (fun i b1 b2 => by rw [mc22, if_pos (by omega)]; omega) (by rw [sm_1, mc22, if_pos rfl]) (by omega) hx (by rw [sm_0, mc22, if_pos rfl]; omega) (fun j b1 b2 => by rw [sm_0, mc22, if_pos rfl] at b2; rw [sm_0] at b1; omega) (fun j b1 b2 => by rw [sm_0] at b1; omega) (fun q => by rw [sm_0, mc22, if_pos rfl] at q; omega)
      (by rw [ml22, if_pos rfl]) (by rw [R_cg (o22 33 (by decide))]; exact mn1) ⟨mn2, mn3⟩
    obtain ⟨D4, u1, u2⟩ := entEnd_m hk (D := D3) (p := p) (by rw [R_cg (t2.1 40 (by decide)), R_cg (o22 40 (by decide)), hp]) (by rw [R_cg (t2.1 33 (by decide)), R_cg (o22 33 (by decide))]; exact mp1) ⟨mp2, mp3⟩
    have hmod : pM_enters k y x fr Dm = okR 0 D4 := by
      rw [enters_eq, hlf, bnd_ok, hsp, bnd_ok, if_neg (fun z => by omega), rdA_R ⟨hk.1, by omega, by decide⟩, hn, w1, w32_k0, if_pos rfl, wrA_T ⟨hk.1, by omega, by decide⟩, rdA_R ⟨by omega, by omega, by decide⟩, R_T_ot (by decide), w3, wrA_T ⟨by omega, by omega, by decide⟩, wrA_T ⟨by omega, by omega, by decide⟩, t1, w32_k0, if_pos rfl]
      exact u1
    have mc4 : mc D4 k 0 = 1 := by
      have : mc D4 k 0 = mc D3 k 0 := R_cg (u2.1 45 (by decide)) _
      rw [this, t7 0 (by omega) (by omega), uI_eq, mc22, if_pos rfl]; rfl
    have ml4 : ml D4 k 0 = nl := by
      have : ml D4 k 0 = ml (Tz 1920 45 (Tz 1920 44 (Tz 240 42 Dm k 1) (8 * k) nl) (8 * k) 0) k 0 := R_cg ((u2.1 44 (by decide)).trans t6) _
      rw [this, ml22, if_pos rfl]
    have n4 : Rz 240 42 D4 k = 1 := by rw [R_cg ((u2.1 42 (by decide)).trans t4), n22]
    have sm4 : sm (mc D4 k) 1 = N + 1 := by rw [sm_1, mc4, hN0]; rfl
    have meq : ∀ j, 0 ≤ j → j ≤ N → me D4 k j = insF (me Dm k) 0 y j ∧ mn_ D4 k j = insF (mn_ Dm k) 0 x j := fun j b1 b2 => by
      have hj : j = 0 := by omega
      subst hj
      obtain ⟨v1, v2⟩ := t8 0 (by omega) (by omega)
      rw [insF_eq] at v1 v2
      rw [insF_eq, insF_eq]
      have q1 : me D4 k 0 = me D3 k 0 := R_cg (u2.1 46 (by decide)) _
      have q2 : mn_ D4 k 0 = mn_ D3 k 0 := R_cg (u2.1 47 (by decide)) _
      exact ⟨q1.trans v1, q2.trans v2⟩
    obtain ⟨W1, W2⟩ := hW.ins (D' := D4) (n' := 1) (t := 0) (x := x) (y := y) (N := N) (by rw [hn]; exact hN) n4 (by omega) (fun i b1 b2 => by rw [show i = 0 by omega, mc4]; omega) sm4 (by omega) meq (fun j b1 b2 => by omega) (fun j b1 b2 => by omega) hx hy
    refine ⟨Dc', D4, sec p 6, 1, c1, hmod, c2, ?_, (lk22.trans t2).trans (Lk.of58 u2), W1, n4, ?_, sm4, ?_, Or.inr ⟨by omega, Or.inl w1, fun i b1 b2 => ?_, fun q => by omega⟩, fun i q1 q2 q3 q4 => c4 i q1 (q3 (by omega))⟩
    · refine ((Mb.ot (o22 58 (by decide))).trans (t3.trans u2.2)).iff (fun t _ _ => ?_)
      constructor
      · rintro (q | q | q)
        · exact q.elim
        · exact Or.inr ⟨w1, q⟩
        · exact Or.inl q
      · rintro (q | q)
        · exact Or.inr (Or.inr q)
        · exact Or.inr (Or.inl q.2)
    · refine c3.cong rfl (fun i b1 b2 => ?_) (fun j b1 b2 => ?_) (fun q => by omega) (fun i b1 b2 => ?_) (fun q => by omega) (fun _ _ _ _ _ _ => rfl) (fun _ _ _ _ => rfl)
      · have : i = 0 := by omega
        rw [this, uI_eq, uI_eq]
        exact ⟨ml4, mc4⟩
      · have hj : j = 0 := by
          rw [sm_1, uI_eq] at b2
          omega
        rw [hj, W2 0 (by omega) (by omega)]
      · rw [show i = 0 by omega, uI_eq, c2.sz]; exact w4
    · rw [sm_0]; exact meq
    · rw [if_pos w1, show i = 0 by omega, insF_eq]; exact ml4
  · -- a leaf with place
    obtain ⟨a1, a2, a3, a4⟩ := ha w1
    obtain ⟨b1, b2⟩ := cmpE w1
    have hlt := hLn w1
    obtain ⟨s1, s2, s3, s4⟩ := hLC.2.2.1 L hL0.1 hlt
    obtain ⟨mq1, mq2, mq3⟩ := m33 (ml Dm k L) 5 (by omega) s1
    have hstq := hst w1
    obtain ⟨Dc', c1, c2, c3, c4⟩ := putIn_B (fr := fr) hT he hps hLC hinj hEb hX w1 hL w2 ⟨a1, a2⟩ b1 b2
    obtain ⟨D3, t1, t2, t3, t4, t5, t6, t7, t8⟩ := entTail_m hk (D := Dm) (n := n) (L := L) (t := sm (mc Dm k) L + a) (child := y) (x := x) (fr := fr) (q := ml Dm k L) (N := N) hn (by omega) ⟨hL0.1, hlt⟩ (fun i q1 q2 => by have := (hLC.2.2.1 i q1 q2).2.2.1; omega) hN hN31 hx (by omega)
      (fun j q1 q2 => (hW.2.2.1 j (by omega) (by rw [hn]; omega)).1) (fun j q1 q2 => a3 j (by omega) q2) (fun q => by have := a4 (sm (mc Dm k) L + a) (Int.le_refl _) (by omega); omega) rfl mq1 ⟨mq2, mq3⟩
    obtain ⟨D4, u1, u2⟩ := entEnd_m hk (D := D3) (p := p) (by rw [R_cg (t2.1 40 (by decide)), hp]) (by rw [R_cg (t2.1 33 (by decide))]; exact mp1) ⟨mp2, mp3⟩
    have hmod : pM_enters k y x fr Dm = okR 0 D4 := by
      rw [enters_eq, hlf, bnd_ok, hsp, bnd_ok, if_neg (fun z => by omega), rdA_R ⟨hk.1, by omega, by decide⟩, hn, w32_of (z := n) (by omega), if_neg (by omega), t1, w32_k0, if_pos rfl]
      exact u1
    have mc4 : ∀ i, 0 ≤ i → i < 8 → mc D4 k i = uI (mc Dm k) L (mc Dm k L + 1) i := fun i q1 q2 => by
      have : mc D4 k i = mc D3 k i := R_cg (u2.1 45 (by decide)) _
      rw [this, t7 i q1 q2]
    have ml4 : ∀ i, ml D4 k i = ml Dm k i := fun i => R_cg ((u2.1 44 (by decide)).trans t6) _
    have n4 : Rz 240 42 D4 k = n := by rw [R_cg ((u2.1 42 (by decide)).trans t4), hn]
    have sm4 : ∀ i, 0 ≤ i → i ≤ n → sm (mc D4 k) i = if i ≤ L then sm (mc Dm k) i else sm (mc Dm k) i + 1 := fun i q1 q2 => by
      rw [sm_cong (g := uI (mc Dm k) L (mc Dm k L + 1)) (fun j r1 r2 => mc4 j r1 (by omega)), sm_upd hL0.1 i.toNat i (by omega)]
      by_cases z : i ≤ L
      · rw [if_pos z, if_pos z]
      · rw [if_neg z, if_neg z]; omega
    have meq : ∀ j, 0 ≤ j → j ≤ N → me D4 k j = insF (me Dm k) (sm (mc Dm k) L + a) y j ∧ mn_ D4 k j = insF (mn_ Dm k) (sm (mc Dm k) L + a) x j := fun j r1 r2 => by
      obtain ⟨v1, v2⟩ := t8 j r1 r2
      have q1 : me D4 k j = me D3 k j := R_cg (u2.1 46 (by decide)) _
      have q2 : mn_ D4 k j = mn_ D3 k j := R_cg (u2.1 47 (by decide)) _
      exact ⟨q1.trans v1, q2.trans v2⟩
    obtain ⟨W1, W2⟩ := hW.ins (D' := D4) (n' := n) (t := sm (mc Dm k) L + a) (x := x) (y := y) (N := N) (by rw [hn]; exact hN) n4 (by omega) (fun i r1 r2 => by
        have := (hLC.2.2.1 i r1 r2).2.2.1
        rw [mc4 i r1 (by omega)]
        unfold uI
        split <;> omega) (by rw [sm4 n (by omega) (Int.le_refl _), if_neg (by omega), hN]) (by omega) meq (fun j r1 r2 => a3 j r1 r2) (fun j r1 r2 => a4 j r1 r2) hx hy
    refine ⟨Dc', D4, _, n, c1, hmod, c2, ?_, t2.trans (Lk.of58 u2), W1, n4, ?_, by rw [sm4 n (by omega) (Int.le_refl _), if_neg (by omega), hN], meq, Or.inl ⟨rfl, ml4, R_cg ((u2.1 43 (by decide)).trans t5) _, w1⟩, fun i q1 q2 q3 q4 => c4 i (q2 w1)⟩
    · refine (t3.trans u2.2).iff (fun t _ _ => ?_)
      constructor
      · rintro (q | q)
        · exact Or.inl (Or.inr q)
        · exact Or.inl (Or.inl q)
      · rintro ((q | q) | q)
        · exact Or.inr q
        · exact Or.inl q
        · omega
    · refine c3.cong rfl (fun i r1 r2 => ⟨ml4 i, mc4 i r1 (by omega)⟩) (fun j r1 r2 => ?_) (fun _ => R_cg ((u2.1 43 (by decide)).trans t5) _) (fun i r1 r2 => ?_) (fun q => ?_) (fun _ _ _ _ _ _ => rfl) (fun _ _ _ _ => rfl)
      · rw [sm_upd hL0.1 n.toNat n (by omega), if_neg (by omega), hN] at r2
        exact W2 j r1 (by omega)
      · rw [c2.sz]; exact (hLC.2.2.1 i r1 r2).1
      · rw [c2.sz]; exact (hLC.2.2.2 q).1
  · -- a full leaf
    obtain ⟨z1, z2, z3, z4, z5, z6, z7, z8⟩ : (1 ≤ n ∧ n < 8) ∧ mc Dm k L = 4 ∧ ((n = 1 ∧ Rz 6 9 Dc fr = ix' ∧ Rz 6 9 Dc (fr + 1) = nl) ∨ (2 ≤ n ∧ Rz 240 43 Dm k = ix' ∧ Rz 6 9 Dc fr = nl)) ∧ ((n = 1 ∧ Rz 8 66 Dm fr = ix' ∧ Rz 8 66 Dm (fr + 1) = nl) ∨ (2 ≤ n ∧ Rz 240 43 Dm k = ix' ∧ Rz 8 66 Dm fr = nl)) ∧ Rz 1024 3 Dc ix' = 9 ∧ Rz 1024 3 Dc nl = 5 ∧ (∀ i, 0 ≤ i → i < n → nl ≠ ml Dm k i) ∧ True := by
      rcases hS with ⟨y1, y2, y3, y4, y5, y6, y7, y8, y9⟩ | ⟨y1, y2, y3, y4, y5, y6, y7, y8⟩
      · exact ⟨by omega, y2, Or.inl ⟨y1, y3, y4⟩, Or.inl ⟨y1, y5, y6⟩, y7, y8, y9, trivial⟩
      · exact ⟨by omega, y3, Or.inr ⟨y1, y4.symm, y5⟩, Or.inr ⟨y1, y4.symm, y6⟩, by rw [y4]; exact (hLC.2.2.2 y1).1, y7, y8, trivial⟩
    obtain ⟨a1, a2, a3, a4⟩ := ha z1.1
    obtain ⟨b1, b2⟩ := cmpE z1.1
    have hlt := hLn z1.1
    obtain ⟨s1, s2, s3, s4⟩ := hLC.2.2.1 L hL0.1 hlt
    obtain ⟨mq1, mq2, mq3⟩ := m33 (ml Dm k L) 5 (by omega) s1
    obtain ⟨mx1, mx2, mx3⟩ := m33 ix' 9 (by omega) z5
    have hstq := hst z1.1
    rw [z2] at a2 b2 hstq
    obtain ⟨Dc', c1, c2, c3, c4⟩ := putIn_S (fr := fr) (nl := nl) (ix' := ix') hT he hps hLC hinj hEb hX z1 hL z2 ⟨a1, a2⟩ b1 b2 hfr z3 z5 z6 z7
    obtain ⟨D3, t1, t2, t3, t4, t5, t6, t7, t8⟩ := entTail_m hk (D := Dm) (n := n) (L := L) (t := sm (mc Dm k) L + a) (child := y) (x := x) (fr := fr) (q := ml Dm k L) (N := N) hn (by omega) ⟨hL0.1, hlt⟩ (fun i q1 q2 => by have := (hLC.2.2.1 i q1 q2).2.2.1; omega) hN hN31 hx (by omega)
      (fun j q1 q2 => (hW.2.2.1 j (by omega) (by rw [hn]; omega)).1) (fun j q1 q2 => a3 j (by omega) q2) (fun q => by have := a4 (sm (mc Dm k) L + a) (Int.le_refl _) (by omega); omega) rfl mq1 ⟨mq2, mq3⟩
    obtain ⟨D4, u1, u2, u3, u4, u5, u6, u7, u8, u9⟩ := entSplit_m hk (D := D3) (n := n) (L := L) (fr := fr) (p := p) (ix' := ix') (nl := nl) (by rw [R_cg t4, hn]) z1 ⟨hL0.1, hlt⟩ hfr (by rw [R_cg (t2.1 66 (by decide)), R_cg (t2.1 66 (by decide)), R_cg t5]; exact z4) (by rw [R_cg (t2.1 33 (by decide))]; exact mx1) ⟨mx2, mx3⟩ (by rw [R_cg (t2.1 40 (by decide)), hp]) (by rw [R_cg (t2.1 33 (by decide))]; exact mp1) ⟨mp2, mp3⟩
    have hmod : pM_enters k y x fr Dm = okR 0 D4 := by
      rw [enters_eq, hlf, bnd_ok, hsp, bnd_ok, if_pos ⟨z1.1, z2⟩, rdA_R ⟨hk.1, by omega, by decide⟩, hn, w32_of (z := n) (by omega), if_neg (by omega), t1, w32_k1, if_neg (by decide)]
      exact u1
    have mc4 : ∀ i, 0 ≤ i → i < n + 1 → mc D4 k i = splF (mc Dm k) L i := fun i q1 q2 => by
      have old : ∀ j, j ≠ L → 0 ≤ j → j < 8 → mc D3 k j = mc Dm k j := fun j hj r1 r2 => by rw [t7 j r1 r2, uI_ne hj]
      rw [u9 i q1 q2]
      unfold splF
      by_cases y0 : i < L
      · rw [if_pos y0, if_pos y0, old i (by omega) q1 (by omega)]
      · rw [if_neg y0, if_neg y0]
        by_cases y1 : i = L
        · rw [if_pos y1, if_pos y1]
        · rw [if_neg y1, if_neg y1]
          by_cases y2 : i = L + 1
          · rw [if_pos y2, if_pos y2]
          · rw [if_neg y2, if_neg y2, old (i - 1) (by omega) (by omega) (by omega)]
    have ml3 : ∀ i, ml D3 k i = ml Dm k i := fun i => R_cg t6 _
    have ml4 : ∀ i, 0 ≤ i → i < n + 1 → ml D4 k i = insF (ml Dm k) (L + 1) nl i := fun i q1 q2 => by
      rw [u8 i q1 q2, show ml D3 k = ml Dm k from funext ml3]
    have sm4 : sm (mc D4 k) (n + 1) = N + 1 := by
      rw [sm_cong (g := splF (mc Dm k) L) (fun j r1 r2 => mc4 j r1 (by omega)), sm_spl hL0.1 z2 (n + 1).toNat (n + 1) (by omega), if_neg (by omega), if_neg (by omega), show n + 1 - 1 = n by omega, hN]
    have meq : ∀ j, 0 ≤ j → j ≤ N → me D4 k j = insF (me Dm k) (sm (mc Dm k) L + a) y j ∧ mn_ D4 k j = insF (mn_ Dm k) (sm (mc Dm k) L + a) x j := fun j r1 r2 => by
      obtain ⟨v1, v2⟩ := t8 j r1 r2
      have q1 : me D4 k j = me D3 k j := R_cg u6 _
      have q2 : mn_ D4 k j = mn_ D3 k j := R_cg u7 _
      exact ⟨q1.trans v1, q2.trans v2⟩
    obtain ⟨W1, W2⟩ := hW.ins (D' := D4) (n' := n + 1) (t := sm (mc Dm k) L + a) (x := x) (y := y) (N := N) (by rw [hn]; exact hN) u4 (by omega) (fun i r1 r2 => by
        rw [mc4 i r1 r2]
        unfold splF
        split
        · have := (hLC.2.2.1 i r1 (by omega)).2.2.1; omega
        · split
          · omega
          · split
            · omega
            · have := (hLC.2.2.1 (i - 1) (by omega) (by omega)).2.2.1; omega) sm4 (by omega) meq (fun j r1 r2 => a3 j r1 r2) (fun j r1 r2 => a4 j r1 r2) hx hy
    refine ⟨Dc', D4, _, n + 1, c1, hmod, c2, ?_, t2.trans u2, W1, u4, ?_, sm4, meq, Or.inr ⟨rfl, Or.inr ⟨z1.1, z2⟩, fun i r1 r2 => ?_, fun _ => u5⟩, fun i q1 q2 q3 q4 => c4 i q1 (q2 z1.1) (q3 rfl) (q4 rfl (by omega))⟩
    · refine (t3.trans u3).iff (fun t _ _ => ?_)
      constructor
      · rintro (q | q | q)
        · exact Or.inl (Or.inr (Or.inl q))
        · exact Or.inl (Or.inr (Or.inr q))
        · exact Or.inl (Or.inl q)
      · rintro ((q | q | q) | q)
        · exact Or.inr (Or.inr q)
        · exact Or.inl q
        · exact Or.inr (Or.inl q)
        · omega
    · refine c3.cong rfl (fun i r1 r2 => ⟨ml4 i r1 r2, mc4 i r1 r2⟩) (fun j r1 r2 => ?_) (fun _ => u5) (fun i r1 r2 => ?_) (fun q => ?_) (fun _ _ _ _ _ _ => rfl) (fun _ _ _ _ => rfl)
      · rw [sm_spl hL0.1 z2 (n + 1).toNat (n + 1) (by omega), if_neg (by omega), if_neg (by omega), show n + 1 - 1 = n by omega, hN] at r2
        exact W2 j r1 (by omega)
      · rw [c2.sz]
        unfold insF
        split
        · exact (hLC.2.2.1 i r1 (by omega)).1
        · split
          · exact z6
          · exact (hLC.2.2.1 (i - 1) (by omega) (by omega)).1
      · rw [c2.sz]; exact z5
    · rw [if_neg (by omega)]; exact ml4 i r1 r2
