/-! usedByTree: the walk -/
section WALK2
variable {Dc Dm : DD} {m : Int}
theorem fill_loop : ∀ (f : Nat) (i : Int) (D : DD), 0 ≤ i → i ≤ 256 → (256 - i).toNat < f → ∃ D', pJ_fill_5 0 256 f i D = okR 0 D' ∧ (∀ b, b ≠ 14 → D' b = D b) ∧ ∀ u, Rz 256 14 D' u = if i ≤ u ∧ u < 256 then 0 else Rz 256 14 D u := by
  intro f
  induction f with
  | zero => intro i D h1 h2 h3; omega
  | succ f ih =>
    intro i D h1 h2 h3
    rw [pJ_fill_5, w32_of (z := i) (by omega), w32_of (z := 256) (by omega)]
    by_cases z : i < 256
    · obtain ⟨D', k1, k2, k3⟩ := ih (i + 1) (Tz 256 14 D i 0) (by omega) (by omega) (by omega)
      refine ⟨D', ?_, fun b hb => (k2 b hb).trans (T_ot hb), fun u => ?_⟩
      · rw [if_pos z, wrA_T (by omega)]
        exact k1
      · rw [k3, R_T]
        by_cases y : u = i
        · rw [if_neg (by omega), if_pos ⟨by omega, y⟩, if_pos (by omega)]
        · by_cases y2 : i + 1 ≤ u ∧ u < 256
          · rw [if_pos y2, if_pos (by omega)]
          · rw [if_neg y2, if_neg (fun w => y w.2), if_neg (by omega)]
    · exact ⟨D, by rw [if_neg z], fun _ _ => rfl, fun u => by rw [if_neg (by omega)]⟩
theorem kids {inF kid : Int → Int} {c N : Int} (h01 : ∀ k, inF k = 0 ∨ inF k = 1) (hs : sm inF 80 = c) (hb : ∀ j, 0 ≤ j → j < N → (0 ≤ kid j ∧ kid j < 80) ∧ inF (kid j) = 0) (hd : ∀ j j', 0 ≤ j → j < j' → j' < N → kid j ≠ kid j') : ∀ (t : Nat), (t : Int) ≤ N → ∃ inG : Int → Int, (∀ k, inG k = 0 ∨ inG k = 1) ∧ (∀ k, inG k = 1 ↔ inF k = 1 ∨ ∃ j : Int, 0 ≤ j ∧ j < (t : Int) ∧ kid j = k) ∧ sm inG 80 = c + t := by
  intro t
  induction t with
  | zero =>
    intro _
    refine ⟨inF, h01, fun k => ?_, by rw [hs]; omega⟩
    constructor
    · exact fun z => Or.inl z
    · rintro (z | ⟨j, a, b, -⟩)
      · exact z
      · omega
  | succ t ih =>
    intro ht
    obtain ⟨G, g1, g2, g3⟩ := ih (by omega)
    obtain ⟨b1, b2⟩ := hb t (by omega) (by omega)
    have g0 : G (kid t) = 0 := by
      rcases g1 (kid t) with z | z
      · exact z
      · rcases (g2 _).1 z with y | ⟨j, a, b, y⟩
        · omega
        · exact absurd y (hd j t a b (by omega))
    refine ⟨uI G (kid t) 1, fun k => ?_, fun k => ?_, ?_⟩
    · unfold uI
      by_cases q : k = kid t
      · rw [if_pos q]; exact Or.inr rfl
      · rw [if_neg q]; exact g1 k
    · unfold uI
      by_cases q : k = kid t
      · rw [if_pos q]
        exact ⟨fun _ => Or.inr ⟨t, by omega, by omega, q.symm⟩, fun _ => rfl⟩
      · rw [if_neg q, g2]
        constructor
        · rintro (z | ⟨j, a, b, z⟩)
          · exact Or.inl z
          · exact Or.inr ⟨j, a, by omega, z⟩
        · rintro (z | ⟨j, a, b, z⟩)
          · exact Or.inl z
          · by_cases e : j = t
            · exact absurd (by rw [← z, e]) q
            · exact Or.inr ⟨j, a, by omega, z⟩
    · rw [sm_upd b1.1 80 80 rfl, if_neg (show ¬ (80 : Int) ≤ kid t by omega), g3, g0]
      omega
theorem as_loop {p c N : Int} {kid : Int → Int} (hc : 0 ≤ c ∧ 0 ≤ N ∧ c + N ≤ 80) : ∀ (f : Nat) (j : Int) (D : DD), 0 ≤ j → j ≤ N → (N - j).toNat < f → (∀ D', (∀ b, b ≠ 1 → D' b = D b) → ∀ i, 0 ≤ i → i < N → pL_subkeyNumbered p i D' = okR (kid i) D') → ∃ D', (∀ K, pH_addSubkeysToWalk_12 p c N f j D K = K D') ∧ (∀ b, b ≠ 1 → D' b = D b) ∧ ∀ u, Rz 80 1 D' u = if c + j ≤ u ∧ u < c + N then kid (u - c) else Rz 80 1 D u := by
  intro f
  induction f with
  | zero => intro j D h1 h2 h3; omega
  | succ f ih =>
    intro j D h1 h2 h3 hs
    by_cases z : j < N
    · obtain ⟨D', k1, k2, k3⟩ := ih (j + 1) (Tz 80 1 D (c + j) (kid j)) (by omega) (by omega) (by omega) (fun D' hD' => hs D' (fun b hb => (hD' b hb).trans (T_ot hb)))
      refine ⟨D', fun K => ?_, fun b hb => (k2 b hb).trans (T_ot hb), fun u => ?_⟩
      · rw [pH_addSubkeysToWalk_12, w32_of (z := j) (by omega), w32_of (z := N) (by omega), if_pos z, hs D (fun _ _ => rfl) j h1 z, bnd_ok]
        simp only [gD]
        rw [sto_T (by omega)]
        exact k1 K
      · rw [k3, R_T]
        by_cases y : u = c + j
        · rw [if_neg (by omega), if_pos ⟨by omega, y⟩, if_pos (by omega), show u - c = j by omega]
        · by_cases y2 : c + (j + 1) ≤ u ∧ u < c + N
          · rw [if_pos y2, if_pos (by omega)]
          · rw [if_neg y2, if_neg (fun w => y w.2), if_neg (by omega)]
    · exact ⟨D, fun K => by rw [pH_addSubkeysToWalk_12, w32_of (z := j) (by omega), w32_of (z := N) (by omega), if_neg z], fun _ _ => rfl, fun u => by rw [if_neg (by omega)]⟩
theorem tree_loop (h : Tr Dc Dm) : ∀ (f : Nat) (c acc i : Int) (D : DD) (inF prF : Int → Int), (80 - i).toNat < f → 0 ≤ i → i ≤ c → (∀ b, b ∉ [1, 14] → D b = Dc b) → (∀ k, inF k = 0 ∨ inF k = 1) → (∀ k, prF k = 0 ∨ prF k = 1) → (∀ k, inF k = 1 → (0 ≤ k ∧ k < 80) ∧ th Dm k) → (∀ j, 0 ≤ j → j < c → inF (Rz 80 1 D j) = 1) → (∀ j j', 0 ≤ j → j < j' → j' < c → Rz 80 1 D j ≠ Rz 80 1 D j') →
    (∀ k, prF k = 1 ↔ ∃ j, 0 ≤ j ∧ j < i ∧ Rz 80 1 D j = k) → (∀ k, inF k = 1 → ∃ j, 0 ≤ j ∧ j < c ∧ Rz 80 1 D j = k) → inF 0 = 1 → (∀ k, 1 ≤ k → k < 80 → th Dm k → (inF k = 1 ↔ prF (Rz 240 37 Dm k) = 1)) → sm inF 80 = c → (∀ r, 0 ≤ r → r < 256 → (Rz 256 14 D r = 0 ∨ Rz 256 14 D r = 1) ∧ (Rz 256 14 D r = 1 ↔ ∃ k, prF k = 1 ∧ Rz 240 41 Dm k = r)) →
    acc = sm (fun k => if prF k = 1 then ukK Dm k else 0) 80 + sm (fun r => if Rz 256 14 D r = 1 then 2 else 0) 256 →
    ∃ D', pH_usedByTree_22 f c acc i D = okR (sm (fun k => if Rz 240 36 Dm k = 1 then ukK Dm k else 0) 80 + sm (fun r => if 0 < Rz 768 57 Dm r then 2 else 0) 256) D' ∧ ∀ b, b ∉ [1, 14] → D' b = Dc b := by
  intro f
  induction f with
  | zero => intro c acc i D inF prF h1; omega
  | succ f ih =>
    intro c acc i D inF prF hf i0 ic hD in01 pr01 hA hB hCd hP hI hE hF hG hR hacc
    have c80 : c ≤ 80 := by
      have := sm_bd (f := inF) (b := 1) (by decide) 80 80 rfl (fun k _ _ => by rcases in01 k with z | z <;> omega)
      omega
    rw [pH_usedByTree_22, w32_of (z := i) (by omega), w32_of (z := c) (by omega)]
    by_cases z : i < c
    · -- one key more
      rw [if_pos z, if_pos (show i < 80 by omega)]
      obtain ⟨x, hx⟩ : ∃ x, Rz 80 1 D i = x := ⟨_, rfl⟩
      have ix := hB i i0 z
      rw [hx] at ix
      obtain ⟨xr, xt⟩ := hA x ix
      have px : prF x = 0 := by
        rcases pr01 x with y | y
        · exact y
        · obtain ⟨j, j1, j2, j3⟩ := (hP x).1 y
          exact absurd (j3.trans hx.symm) (hCd j i j1 j2 z)
      have hTD : Tr D Dm := h.eqv (fun b y1 y2 => hD b (by simp only [List.mem_cons, List.not_mem_nil, or_false]; omega)) (fun _ _ _ => rfl)
      have hkr := St.kr hTD xr xt
      obtain ⟨p1, p2, p3⟩ := hTD.place xr xt
      obtain ⟨a, b, u1, u2, u3, u4⟩ := units_c hTD xr xt
      have hrb := hkr.2.2.2.1.2.1
      obtain ⟨r, hr⟩ : ∃ r, Rz 240 41 Dm x = r := ⟨_, rfl⟩
      rw [hr] at hrb
      have pc : pI_placeOfKey (rd 80 1 i D) D = Rz 240 40 Dm x := by
        unfold pI_placeOfKey
        rw [rd_R (i := i) (by omega), hx, rd_R (by omega), p1]
      have ur : pI_unitAt (Rz 240 40 Dm x + 4) D = r := by
        unfold pI_unitAt
        rw [rd_R (by omega), hkr.2.2.1.2.2.1, hr]
      have hhas := h.2.has xr xt (by rw [hr]; exact hrb)
      rw [hr] at hhas
      have rpl := (hTD.1.2.2.2.2.1 r hrb.1 (by omega)).2 hhas.1
      have rpt := hTD.1.1.1.1 (Rz 768 56 Dm r) (by omega)
      have rsc := hTD.1.1.2.1
      have nyc : pS_unitsNotYetCounted r D = okR (if Rz 256 14 D r = 1 then 0 else 2) (Tz 256 14 D r 1) := by
        unfold pS_unitsNotYetCounted
        simp only [jnR, gD]
        rw [rd_R (by omega), sto_T (by omega)]
        rcases (hR r hrb.1 (by omega)).1 with y | y
        · rw [y, w32_k0, if_pos rfl, if_neg (by decide)]
          unfold pI_sizeAt pI_placeOfRights
          rw [rd_R (i := r) (by omega), rpl.1, rd_R (by omega), rpl.2.1]
        · rw [y, w32_k1, if_neg (by decide), if_pos rfl]
      -- its subkeys
      obtain ⟨N, hN⟩ : ∃ N, sm (mc Dm x) (Rz 240 42 Dm x) = N := ⟨_, rfl⟩
      have hW := hkr.2.2.2.2.2.1
      have tot := hkr.tot
      rw [hN] at tot
      have kb : ∀ j, 0 ≤ j → j < N → (0 ≤ me Dm x j ∧ me Dm x j < 80) ∧ inF (me Dm x j) = 0 := fun j j1 j2 => by
        obtain ⟨y1, y2, y3⟩ := h.2.2.2.2.2.1 x j xr.1 xr.2 xt j1 (by rw [hN]; exact j2)
        have y4 := (hW.2.2.1 j j1 (by rw [hN]; exact j2)).2
        refine ⟨y4, ?_⟩
        have y5 : 1 ≤ me Dm x j := by
          by_cases e : me Dm x j = 0
          · have := h.2.2.2.1.2.1
            rw [e, this] at y2
            omega
          · omega
        rcases in01 (me Dm x j) with w | w
        · exact w
        · have := (hF _ y5 y4.2 y1).1 w
          rw [y2, px] at this
          omega
      have kd : ∀ j j', 0 ≤ j → j < j' → j' < N → me Dm x j ≠ me Dm x j' := fun j j' j1 j2 j3 e => by
        have y1 := (h.2.2.2.2.2.1 x j xr.1 xr.2 xt j1 (by rw [hN]; omega)).2.2
        have y2 := (h.2.2.2.2.2.1 x j' xr.1 xr.2 xt (by omega) (by rw [hN]; exact j3)).2.2
        rw [e] at y1
        have := hW.2.2.2 j j' j1 j2 (by rw [hN]; exact j3)
        rw [← y1, ← y2] at this
        omega
      obtain ⟨inG, n1, n2, n3⟩ := kids (kid := me Dm x) in01 hG kb kd N.toNat (by omega)
      rw [show (N.toNat : Int) = N by omega] at n2 n3
      have c80' : c + N ≤ 80 := by
        have := sm_bd (f := inG) (b := 1) (by decide) 80 80 rfl (fun k _ _ => by rcases n1 k with z | z <;> omega)
        omega
      have sub : ∀ D', (∀ b, b ≠ 1 → D' b = Tz 256 14 D r 1 b) → ∀ j, 0 ≤ j → j < N → pL_subkeyNumbered (Rz 240 40 Dm x) j D' = okR (me Dm x j) D' := fun D' hD' j j1 j2 => by
        have hT' : Tr D' Dm := hTD.eqv (fun b y1 y2 => by rw [hD' b (by omega), T_ot (by omega)]) (fun _ _ _ => rfl)
        have hk' := St.kr hT' xr xt
        exact subkeyNumbered_c rfl hk'.2.2.2.2.1 hk'.2.2.2.2.2.1 hT'.1.1.1 (by have := hT'.1.1.2.1; omega) (by omega) ⟨j1, by rw [hN]; exact j2⟩
      obtain ⟨D4, s1, s2, s3⟩ := as_loop (p := Rz 240 40 Dm x) (c := c) (N := N) (kid := me Dm x) ⟨by omega, tot.1, c80'⟩ fu 0 (Tz 256 14 D r 1) (Int.le_refl _) tot.1 (fu_gt (by omega)) sub
      have ec : pL_entryCount (Rz 240 40 Dm x) (Tz 256 14 D r 1) = okR N (Tz 256 14 D r 1) := by
        have hT' : Tr (Tz 256 14 D r 1) Dm := hTD.eqv (fun b y1 y2 => T_ot (by omega)) (fun _ _ _ => rfl)
        have hk' := St.kr hT' xr xt
        rw [← hN]
        exact entryCount_c hk'.2.2.2.2.1 hT'.1.1.1 (by have := hT'.1.1.2.1; omega) (by omega) rfl
      have w1 : ∀ u, Rz 80 1 D4 u = if c ≤ u ∧ u < c + N then me Dm x (u - c) else Rz 80 1 D u := fun u => by
        rw [s3, Int.add_zero, R_T_ot (by decide)]
      have f14 : ∀ r', Rz 256 14 D4 r' = if r' = r then 1 else Rz 256 14 D r' := fun r' => by
        rw [R_cg (s2 14 (by decide)), R_T]
        by_cases e : r' = r
        · rw [if_pos ⟨by omega, e⟩, if_pos e]
        · rw [if_neg (fun y => e y.2), if_neg e]
      have pr' : ∀ k, uI prF x 1 k = 1 ↔ k = x ∨ prF k = 1 := fun k => by
        unfold uI
        by_cases e : k = x
        · rw [if_pos e]; exact ⟨fun _ => Or.inl e, fun _ => rfl⟩
        · rw [if_neg e]; exact ⟨fun y => Or.inr y, fun y => y.resolve_left e⟩
      have hx1 : ∀ k, inG k = 1 → (0 ≤ k ∧ k < 80) ∧ th Dm k := by
        intro k y
        rcases (n2 k).1 y with w | ⟨j, j1, j2, w⟩
        · exact hA k w
        · obtain ⟨y1, y2, y3⟩ := h.2.2.2.2.2.1 x j xr.1 xr.2 xt j1 (by rw [hN]; exact j2)
          rw [← w]
          exact ⟨(kb j j1 j2).1, y1⟩
      have hx2 : ∀ j, 0 ≤ j → j < c + N → inG (Rz 80 1 D4 j) = 1 := by
        intro j j1 j2
        rw [w1]
        by_cases e : c ≤ j ∧ j < c + N
        · rw [if_pos e]
          exact (n2 _).2 (Or.inr ⟨j - c, by omega, by omega, rfl⟩)
        · rw [if_neg e]
          exact (n2 _).2 (Or.inl (hB j j1 (by omega)))
      have hx3 : ∀ j j', 0 ≤ j → j < j' → j' < c + N → Rz 80 1 D4 j ≠ Rz 80 1 D4 j' := by
        intro j j' j1 j2 j3
        rw [w1, w1]
        by_cases e : c ≤ j ∧ j < c + N
        · rw [if_pos e, if_pos (by omega)]
          exact kd _ _ (by omega) (by omega) (by omega)
        · rw [if_neg e]
          by_cases e2 : c ≤ j' ∧ j' < c + N
          · rw [if_pos e2]
            intro y
            have := hB j j1 (by omega)
            rw [y, (kb (j' - c) (by omega) (by omega)).2] at this
            omega
          · rw [if_neg e2]
            exact hCd j j' j1 j2 (by omega)
      have hx4 : ∀ k, uI prF x 1 k = 1 ↔ ∃ j, 0 ≤ j ∧ j < i + 1 ∧ Rz 80 1 D4 j = k := by
        intro k
        rw [pr', hP]
        constructor
        · rintro (y | ⟨j, j1, j2, j3⟩)
          · exact ⟨i, i0, by omega, by rw [w1, if_neg (by omega), hx, y]⟩
          · exact ⟨j, j1, by omega, by rw [w1, if_neg (by omega)]; exact j3⟩
        · rintro ⟨j, j1, j2, j3⟩
          rw [w1, if_neg (by omega)] at j3
          by_cases e : j = i
          · rw [e, hx] at j3
            exact Or.inl j3.symm
          · exact Or.inr ⟨j, j1, by omega, j3⟩
      have hx5 : ∀ k, inG k = 1 → ∃ j, 0 ≤ j ∧ j < c + N ∧ Rz 80 1 D4 j = k := by
        intro k y
        rcases (n2 k).1 y with w | ⟨j, j1, j2, w⟩
        · obtain ⟨j, j1, j2, j3⟩ := hI k w
          exact ⟨j, j1, by omega, by rw [w1, if_neg (by omega)]; exact j3⟩
        · exact ⟨c + j, by omega, by omega, by rw [w1, if_pos (by omega), show c + j - c = j by omega]; exact w⟩
      have hx6 : ∀ k, 1 ≤ k → k < 80 → th Dm k → (inG k = 1 ↔ uI prF x 1 (Rz 240 37 Dm k) = 1) := by
        intro k k1 k2 k3
        rw [n2, pr']
        constructor
        · rintro (y | ⟨j, j1, j2, y⟩)
          · exact Or.inr ((hF k k1 k2 k3).1 y)
          · rw [← y]
            exact Or.inl (h.2.2.2.2.2.1 x j xr.1 xr.2 xt j1 (by rw [hN]; exact j2)).2.1
        · rintro (y | y)
          · obtain ⟨-, -, j, j1, j2, j3⟩ := h.2.2.2.2.1 k k1 k2 k3
            rw [y] at j2 j3
            exact Or.inr ⟨j, j1, by rw [← hN]; exact j2, j3⟩
          · exact Or.inl ((hF k k1 k2 k3).2 y)
      have hx7 : ∀ r', 0 ≤ r' → r' < 256 → (Rz 256 14 D4 r' = 0 ∨ Rz 256 14 D4 r' = 1) ∧ (Rz 256 14 D4 r' = 1 ↔ ∃ k, uI prF x 1 k = 1 ∧ Rz 240 41 Dm k = r') := by
        intro r' r1 r2
        rw [f14]
        obtain ⟨q1, q2⟩ := hR r' r1 r2
        by_cases e : r' = r
        · rw [if_pos e]
          exact ⟨Or.inr rfl, fun _ => ⟨x, (pr' x).2 (Or.inl rfl), by rw [hr, e]⟩, fun _ => rfl⟩
        · rw [if_neg e]
          refine ⟨q1, q2.trans ?_⟩
          constructor
          · rintro ⟨k, k1, k2⟩
            exact ⟨k, (pr' k).2 (Or.inr k1), k2⟩
          · rintro ⟨k, k1, k2⟩
            rcases (pr' k).1 k1 with y | y
            · rw [y, hr] at k2
              exact absurd k2.symm e
            · exact ⟨k, y, k2⟩
      have hx8 : acc + 6 + a + b + (if Rz 256 14 D r = 1 then 0 else 2) = sm (fun k => if uI prF x 1 k = 1 then ukK Dm k else 0) 80 + sm (fun r => if Rz 256 14 D4 r = 1 then 2 else 0) 256 := by
        rw [hacc]
        have q1 : sm (fun k => if uI prF x 1 k = 1 then ukK Dm k else 0) 80 = sm (fun k => if prF k = 1 then ukK Dm k else 0) 80 + ukK Dm x := by
          have e : sm (fun k => if uI prF x 1 k = 1 then ukK Dm k else 0) 80 = sm (uI (fun k => if prF k = 1 then ukK Dm k else 0) x (ukK Dm x)) 80 := sm_cong (fun k _ _ => by
            unfold uI
            by_cases e : k = x
            · rw [if_pos e, if_pos rfl, if_pos e, e]
            · rw [if_neg e, if_neg e])
          rw [e, sm_upd xr.1 80 80 rfl, if_neg (show ¬ (80 : Int) ≤ x by omega), px, if_neg (by decide)]
          omega
        have q2 : sm (fun r' => if Rz 256 14 D4 r' = 1 then (2 : Int) else 0) 256 = sm (fun r' => if Rz 256 14 D r' = 1 then 2 else 0) 256 + (if Rz 256 14 D r = 1 then 0 else 2) := by
          have e : sm (fun r' => if Rz 256 14 D4 r' = 1 then (2 : Int) else 0) 256 = sm (uI (fun r' => if Rz 256 14 D r' = 1 then (2 : Int) else 0) r 2) 256 := sm_cong (fun r' _ _ => by
            rw [f14]
            unfold uI
            by_cases e : r' = r
            · rw [if_pos e, if_pos rfl, if_pos e]
            · rw [if_neg e, if_neg e])
          rw [e, sm_upd hrb.1 256 256 rfl, if_neg (show ¬ (256 : Int) ≤ r by omega)]
          by_cases y : Rz 256 14 D r = 1
          · rw [if_pos y, if_pos y]; omega
          · rw [if_neg y, if_neg y]; omega
        rw [q1, q2]
        omega
      obtain ⟨D', t1, t2⟩ := ih (c + N) (acc + 6 + a + b + (if Rz 256 14 D r = 1 then 0 else 2)) (i + 1) D4 inG (uI prF x 1) (by omega) (by omega) (by omega) (fun b hb => by rw [s2 b (nin hb (by decide)), T_ot (nin hb (by decide)), hD b hb]) n1 (fun k => by
          unfold uI
          by_cases e : k = x
          · rw [if_pos e]; exact Or.inr rfl
          · rw [if_neg e]; exact pr01 k) hx1 hx2 hx3 hx4 hx5 ((n2 0).2 (Or.inl hE)) hx6 n3 hx7 hx8
      refine ⟨D', ?_, t2⟩
      simp only [ltR]
      unfold pH_addSubkeysToWalk
      rw [pc, u1, u2, bnd_ok, u3, bnd_ok, ur, nyc, bnd_ok, ec, bnd_ok, s1, bnd_ok]
      exact t1
    · -- the end
      rw [if_neg z]
      refine ⟨D, ?_, hD⟩
      have icc : i = c := by omega
      have all : ∀ (n : Nat) (k : Int), k < n → 0 ≤ k → k < 80 → th Dm k → prF k = 1 := by
        intro n
        induction n with
        | zero => intro k a b; omega
        | succ n ihn =>
          intro k a b c' d
          have ink : inF k = 1 := by
            by_cases e : k = 0
            · rw [e]; exact hE
            · obtain ⟨y1, y2, -⟩ := h.2.2.2.2.1 k (by omega) c' d
              exact (hF k (by omega) c' d).2 (ihn _ (by omega) y1.1 (by omega) y2)
          obtain ⟨j, j1, j2, j3⟩ := hI k ink
          exact (hP k).2 ⟨j, j1, by omega, j3⟩
      have prt : ∀ k, 0 ≤ k → k < 80 → (prF k = 1 ↔ Rz 240 36 Dm k = 1) := fun k a b => by
        constructor
        · intro y
          obtain ⟨j, j1, j2, j3⟩ := (hP k).1 y
          have := hB j j1 (by omega)
          rw [j3] at this
          exact (hA k this).2
        · exact fun y => all 80 k (by omega) a b y
      have q1 : sm (fun k => if prF k = 1 then ukK Dm k else 0) 80 = sm (fun k => if Rz 240 36 Dm k = 1 then ukK Dm k else 0) 80 := sm_cong (fun k a b => by
        by_cases y : prF k = 1
        · rw [if_pos y, if_pos ((prt k a b).1 y)]
        · rw [if_neg y, if_neg (fun w => y ((prt k a b).2 w))])
      have q2 : sm (fun r => if Rz 256 14 D r = 1 then (2 : Int) else 0) 256 = sm (fun r => if 0 < Rz 768 57 Dm r then 2 else 0) 256 := sm_cong (fun r a b => by
        have s57 := h.2.2.2.2.2.2 r a b
        by_cases y : Rz 256 14 D r = 1
        · obtain ⟨k, k1, k2⟩ := (hR r a b).2.1 y
          obtain ⟨j, j1, j2, j3⟩ := (hP k).1 k1
          have := hB j j1 (by omega)
          rw [j3] at this
          obtain ⟨w1, w2⟩ := hA k this
          have := h.2.has w1 w2 (by rw [k2]; omega)
          rw [k2] at this
          rw [if_pos y, if_pos (by omega)]
        · rw [if_neg y, if_neg]
          intro w
          rw [s57] at w
          obtain ⟨k, k1, k2, k3, k4⟩ := sm_find (f := fun k => if Rz 240 36 Dm k = 1 ∧ Rz 240 41 Dm k = r then (1 : Int) else 0) 80 80 0 rfl (Int.le_refl _) w
          by_cases v : Rz 240 36 Dm k = 1 ∧ Rz 240 41 Dm k = r
          · exact y ((hR r a b).2.2 ⟨k, (prt k k1 k2).2 v.1, v.2⟩)
          · rw [if_neg v] at k4
            omega)
      rw [hacc, q1, q2]
theorem usedByTree_ok (h : St Dc Dm m) : Ok [] Dc Dm m (pH_usedByTree Dc) (pM_usedByTree Dm) := by
  have h1 := (h.thr (x := 0)).1
  have hb57 : ∀ r, 0 ≤ r → r < 256 → 0 ≤ Rz 768 57 (up2 Dm 32 42 0) r ∧ Rz 768 57 (up2 Dm 32 42 0) r ≤ 80 := fun r a b => by
    rw [h1.2.2.2.2.2.2 r a b]
    have := sm_bd (f := fun k => if Rz 240 36 (up2 Dm 32 42 0) k = 1 ∧ Rz 240 41 (up2 Dm 32 42 0) k = r then (1 : Int) else 0) (b := 1) (by decide) 80 80 rfl (fun k _ _ => by split <;> omega)
    omega
  have hm : pM_usedByTree Dm = okR (sm (fun k => if Rz 240 36 (up2 Dm 32 42 0) k = 1 then ukK (up2 Dm 32 42 0) k else 0) 80 + sm (fun r => if 0 < Rz 768 57 (up2 Dm 32 42 0) r then 2 else 0) 256) (up2 Dm 32 42 0) := by
    unfold pM_usedByTree
    simp only [gD]
    rw [ur_loop fu 0 0 (Int.le_refl _) (by omega) (fu_gt (by omega)) hb57, sm_0, uk_loop (fun k a b => (h1.2.2.1 k a b).1) (fun k a b c => by
      have hkr := St.kr h1 ⟨a, b⟩ c
      exact ⟨hkr.2.2.2.2.1.1, hkr.2.2.2.2.2.2.1, fun j j1 j2 => (hkr.2.2.2.2.2.2.2.2.2.1 j j1 j2).2.1⟩) fu 0 _ (Int.le_refl _) (by omega) (fu_gt (by omega)), sm_0]
    have e : ∀ S T : Int, 0 + (S - 0) + (T - 0) = T + S := fun S T => by omega
    rw [e]
  obtain ⟨D1, f1, f2, f3⟩ := fill_loop fu 0 Dc (Int.le_refl _) (by omega) (fu_gt (by omega))
  have t0 := h1.2.2.2.1.1
  have i0 : ∀ k : Int, (fun k : Int => if k = 0 then (1 : Int) else 0) k = 1 ↔ k = 0 := fun k => by
    by_cases e : k = 0
    · simp [e]
    · simp [e]
  have z80 : sm (fun k => if (fun _ => (0 : Int)) k = 1 then ukK (up2 Dm 32 42 0) k else 0) 80 = 0 := by
    have := sm_bd (f := fun k => if (fun _ => (0 : Int)) k = 1 then ukK (up2 Dm 32 42 0) k else 0) (b := 0) (by decide) 80 80 rfl (fun k _ _ => by simp)
    omega
  have w0 : ∀ j, 0 ≤ j → j < 1 → Rz 80 1 (Tz 80 1 D1 0 0) j = 0 := fun j a b => by rw [show j = 0 by omega, R_T_eq (by omega)]
  have g14 : ∀ r, 0 ≤ r → r < 256 → Rz 256 14 (Tz 80 1 D1 0 0) r = 0 := fun r a b => by rw [R_T_ot (by decide), f3, if_pos ⟨a, b⟩]
  obtain ⟨D', k1, k2⟩ := tree_loop h1 fu 1 0 0 (Tz 80 1 D1 0 0) (fun k => if k = 0 then 1 else 0) (fun _ => 0) (fu_gt (by omega)) (Int.le_refl _) (by omega) (fun b hb => by rw [T_ot (nin hb (by decide)), f2 b (nin hb (by decide))]) (fun k => by
      by_cases e : k = 0
      · exact Or.inr (by simp [e])
      · exact Or.inl (by simp [e])) (fun _ => Or.inl rfl) (fun k y => by
      have := (i0 k).1 y
      rw [this]
      exact ⟨by omega, t0⟩) (fun j a b => (i0 _).2 (w0 j a b)) (fun j j' a b c => by omega) (fun k => by
      constructor
      · intro y; exact absurd y (by decide)
      · rintro ⟨j, a, b, -⟩; omega) (fun k y => ⟨0, by omega, by omega, by rw [w0 0 (by omega) (by omega), (i0 k).1 y]⟩) rfl (fun k a b c => by
      constructor
      · intro y
        have := (i0 k).1 y
        omega
      · intro y; exact absurd y (by decide)) (by
      have e : sm (fun k => if k = 0 then (1 : Int) else 0) 80 = sm (uI (fun _ => 0) 0 1) 80 := rfl
      have e2 := sm_bd (f := fun _ : Int => (0 : Int)) (b := 0) (by decide) 80 80 rfl (fun k _ _ => by simp)
      rw [e, sm_upd (by omega) 80 80 rfl, if_neg (by omega)]
      omega) (fun r a b => by
      rw [g14 r a b]
      refine ⟨Or.inl rfl, ?_⟩
      constructor
      · intro y; exact absurd y (by decide)
      · rintro ⟨k, y, -⟩; exact absurd y (by decide)) (by
      have e : sm (fun r => if Rz 256 14 (Tz 80 1 D1 0 0) r = 1 then (2 : Int) else 0) 256 = sm (fun _ => 0) 256 := sm_cong (fun r a b => by rw [g14 r a b, if_neg (by decide)])
      have e2 := sm_bd (f := fun _ : Int => (0 : Int)) (b := 0) (by decide) 256 256 rfl (fun k _ _ => by simp)
      rw [z80, e]
      omega)
  have hs := h.thr (x := 0)
  refine ⟨D', up2 Dm 32 42 0, _, hm, ⟨hs.1.eqv (fun b x y => k2 b (by simp only [List.mem_cons, List.not_mem_nil, or_false]; omega)) (fun _ _ _ => rfl), hs.2.1.cong (by rw [k2 7 (by decide)]) rfl, (hs.2.2.1.cong (k2 16 (by decide)) (k2 17 (by decide)) (k2 18 (by decide)) (k2 19 (by decide)) (by rw [k2 15 (by decide)]) rfl rfl rfl rfl rfl rfl).mono (by omega)⟩, fun b hb => k2 b (by simp only [List.mem_cons, List.not_mem_nil, or_false]; omega), Om.thr _ _, Or.inl ⟨?_, up2_eq ..⟩⟩
  unfold pH_usedByTree pS_startCounting pJ_fill
  simp only [gD]
  rw [f1, bnd_ok, bnd_ok, sto_T (by omega)]
  exact k1
end WALK2
