/-! one value of a key changes: its length, its seed, its pieces from the s-th on -/
section VALUE
variable {T : Int → Prop} {R S : Int → Int} {Dc Dm Dc' Dm' : DD}
theorem T0.value {k j s L0 L' sd' v x : Int} {g : Int → Int} (h : T0 T R S Dc Dm) (hk : 0 ≤ k ∧ k < 80) (hT : T k) (hj : 0 ≤ j ∧ j < Rz 240 48 Dm k) (hv : vP Dm k j = v) (hL0 : vL Dm k j = L0) (hL' : 0 ≤ L' ∧ L' ≤ 30) (hs : 0 ≤ s ∧ s ≤ pcs L0 ∧ s ≤ pcs L') (hsu : ∀ i, 0 ≤ i → i < s → upc L0 i = upc L' i) (hx : x = if s = 0 then v + 2 else vQ Dm k j (s - 1))
    (hg : ∀ i, 0 ≤ i → i < pcs L' - s → Fs T R S Dc Dm (g i) (2 + upc L' (s + i))) (hgn : ∀ i i', 0 ≤ i → i < i' → i' < pcs L' - s → g i ≠ g i')
    (hC : CR Dc' Dm') (h25 : Dc' 2 5 = Dm' 35 0) (h5 : Dc' 5 = Dc 5) (h6 : Dc' 6 = Dc 6) (hm : ∀ b, 36 ≤ b → b ≤ 54 → b ≠ 52 → b ≠ 53 → Dm' b = Dm b) (hMS : ∀ i, 0 ≤ i → i < 80 → i ≠ k → MS Dm Dm' i)
    (hvL : ∀ i, 0 ≤ i → i < 8 → vL Dm' k i = if i = j then L' else vL Dm k i) (hvS : ∀ i, 0 ≤ i → i < 8 → vS Dm' k i = if i = j then sd' else vS Dm k i) (hvQ1 : ∀ i t, 0 ≤ i → i < 8 → 0 ≤ t → t < 4 → (i ≠ j ∨ t < s) → vQ Dm' k i t = vQ Dm k i t) (hvQ2 : ∀ t, s ≤ t → t < pcs L' → vQ Dm' k j t = g (t - s))
    (hz : ∀ u, (∀ i, s ≤ i → i < pcs L0 → u ≠ vQ Dm k j i) → 0 < Rz 1024 3 Dc u → Rz 1024 3 Dc' u = Rz 1024 3 Dc u)
    (u0 : Rz 1024 4 Dc' v = vN Dm k j * 31 + L') (u1 : Rz 1024 4 Dc' (v + 1) = sd') (ux : Rz 1024 4 Dc' x = if s < pcs L' then g 0 else 0) (ug : ∀ i, 0 ≤ i → i < pcs L' - s → Rz 1024 4 Dc' (g i) = if i + 1 < pcs L' - s then g (i + 1) else 0)
    (uo : ∀ u, u ≠ v → u ≠ v + 1 → u ≠ x → (∀ i, 0 ≤ i → i < pcs L' - s → u ≠ g i) → Rz 1024 4 Dc' u = Rz 1024 4 Dc u) : T0 T R S Dc' Dm' := by
  have hkr := h.2.2.2.1 k hk.1 hk.2 hT
  have inK : ∀ {a i p s}, LbK Dm k a i p s → Lb T R S Dm a i p s := fun z => Or.inl ⟨k, hk.1, hk.2, hT, z⟩
  obtain ⟨r1, r2, ⟨w0, w1, w4, w5⟩, ⟨b1, b2, b3, b4⟩, hL, hW, hV⟩ := id hkr
  have n8 := hL.1
  have v8 := hV.1
  have vb := hV.2.2.2.1
  obtain ⟨c1, c2, c3, c4, c5, c6, c7⟩ := vb j hj.1 hj.2
  rw [hL0] at c2 c4 c6 c7
  rw [hv] at c3 c4 c5 c6
  have hp0 := pcs_bd c2
  have hp1 := pcs_bd hL'
  have lv : LbK Dm k 54 (8 * k + j) v 3 := by
    have := LbK.val (D := Dm) (k := k) hj.1 hj.2
    rw [hv] at this
    exact this
  have lq : ∀ i, 0 ≤ i → i < pcs L0 → LbK Dm k 55 (4 * (8 * k + j) + i) (vQ Dm k j i) (2 + upc L0 i) := fun i a b => by
    have := LbK.pie (D := Dm) (k := k) (j := j) (m := i) hj.1 hj.2 a (by rw [hL0]; exact b)
    rw [hL0] at this
    exact this
  have ub : ∀ i, 0 ≤ i → i < pcs L0 → 1 ≤ upc L0 i := fun i a b => (upc_bd c2 ⟨a, b⟩).1
  have ub' : ∀ i, 0 ≤ i → i < pcs L' → 1 ≤ upc L' i := fun i a b => (upc_bd hL' ⟨a, b⟩).1
  -- x lies in the value's cell or is a piece's first unit
  have xout : ∀ a i p t, Lb T R S Dm a i p t → (a ≠ 54 ∨ i ≠ 8 * k + j) → (a ≠ 55 ∨ i ≠ 4 * (8 * k + j) + (s - 1) ∨ s = 0) → ∀ y, 0 ≤ y → y < t → p + y ≠ x := fun a i p t l e1 e2 y a1 a2 => by
    rw [hx]
    by_cases z : s = 0
    · rw [if_pos z]
      have := h.dis l (inK lv) e1
      omega
    · rw [if_neg z]
      have := h.dis l (inK (lq (s - 1) (by omega) (by omega))) (by omega)
      have := ub (s - 1) (by omega) (by omega)
      omega
  have off : ∀ a i p t, Lb T R S Dm a i p t → (a ≠ 54 ∨ i ≠ 8 * k + j) → (a ≠ 55 ∨ i ≠ 4 * (8 * k + j) + (s - 1) ∨ s = 0) → ∀ y, 0 ≤ y → y < t → Rz 1024 4 Dc' (p + y) = Rz 1024 4 Dc (p + y) := fun a i p t l e1 e2 y a1 a2 => by
    have d1 := h.dis l (inK lv) e1
    exact uo _ (by omega) (by omega) (xout a i p t l e1 e2 y a1 a2) (fun i' x1 x2 => by
      have d2 := (hg i' x1 x2).dis h l
      have d3 := ub' (s + i') (by omega) (by omega)
      omega)
  have off0 : ∀ a i p t, Lb T R S Dm a i p t → (a ≠ 54 ∨ i ≠ 8 * k + j) → (a ≠ 55 ∨ i ≠ 4 * (8 * k + j) + (s - 1) ∨ s = 0) → Rz 1024 4 Dc' p = Rz 1024 4 Dc p := fun a i p t l e1 e2 => by
    have := off a i p t l e1 e2 0 (Int.le_refl _) (by have := h.lb l; omega)
    rw [Int.add_zero] at this
    exact this
  have sz : ∀ a i p t, Lb T R S Dm a i p t → (a ≠ 55 ∨ i < 4 * (8 * k + j) + s ∨ 4 * (8 * k + j) + pcs L0 ≤ i) → Rz 1024 3 Dc' p = Rz 1024 3 Dc p := fun a i p t l e => hz p (fun i' x1 x2 => h.ne l (inK (lq i' (by omega) x2)) (by omega)) (by have := h.lb l; omega)
  have m : ∀ b, 36 ≤ b → b ≤ 54 → b ≠ 52 → b ≠ 53 → ∀ n i, Rz n b Dm' i = Rz n b Dm i := fun b x y z w n i => R_cg (hm b x y z w) i
  have eml : ml Dm' = ml Dm := by funext a b; exact m 44 (by decide) (by decide) (by decide) (by decide) _ _
  have emc : mc Dm' = mc Dm := by funext a b; exact m 45 (by decide) (by decide) (by decide) (by decide) _ _
  have eme : me Dm' = me Dm := by funext a b; exact m 46 (by decide) (by decide) (by decide) (by decide) _ _
  have emn : mn_ Dm' = mn_ Dm := by funext a b; exact m 47 (by decide) (by decide) (by decide) (by decide) _ _
  have emE : mE Dm' = mE Dm := by funext a b; unfold mE; rw [eme, emn]
  have evN : vN Dm' = vN Dm := by funext a b; exact m 51 (by decide) (by decide) (by decide) (by decide) _ _
  have evP : vP Dm' = vP Dm := by funext a b; exact m 54 (by decide) (by decide) (by decide) (by decide) _ _
  have e40 : Rz 240 40 Dm' = Rz 240 40 Dm := Rz_fn (hm 40 (by decide) (by decide) (by decide) (by decide))
  have key6 := inK (LbK.key (D := Dm) (k := k))
  have uk := fun y a b => off 40 k (Rz 240 40 Dm k) 6 key6 (Or.inl (by decide)) (Or.inl (by decide)) y a b
  have uk0 := off0 40 k (Rz 240 40 Dm k) 6 key6 (Or.inl (by decide)) (Or.inl (by decide))
  have hKR : KR Dc' Dm' k := by
    have hW' : MW Dm' k := by
      unfold MW at hW ⊢
      rw [emc, eme, emn, m 42 (by decide) (by decide) (by decide) (by decide)]
      exact hW
    unfold KR
    rw [eml, emc, emE, evN, evP, e40, R_cg h5, m 37 (by decide) (by decide) (by decide) (by decide), m 38 (by decide) (by decide) (by decide) (by decide), m 39 (by decide) (by decide) (by decide) (by decide), m 41 (by decide) (by decide) (by decide) (by decide), m 42 (by decide) (by decide) (by decide) (by decide), m 43 (by decide) (by decide) (by decide) (by decide), m 48 (by decide) (by decide) (by decide) (by decide), m 49 (by decide) (by decide) (by decide) (by decide), m 50 (by decide) (by decide) (by decide) (by decide), sz _ _ _ _ key6 (Or.inl (by decide)), uk0, uk 1 (by omega) (by omega), uk 2 (by omega) (by omega), uk 3 (by omega) (by omega), uk 4 (by omega) (by omega), uk 5 (by omega) (by omega)]
    refine ⟨r1, r2, ⟨w0, w1, w4, w5⟩, ⟨b1, b2, b3, b4⟩, ?_, hW', ⟨v8, hV.2.1, fun q => ?_, fun i x1 x2 => ?_, hV.2.2.2.2⟩⟩
    · exact hL.cong rfl (fun _ _ _ => ⟨rfl, rfl⟩) (fun _ _ _ => rfl) (fun _ => rfl) (fun i a b => by rw [sz _ _ _ _ (inK (LbK.lea a b)) (Or.inl (by decide))]; exact (hL.2.2.1 i a b).1) (fun q => by rw [sz _ _ _ _ (inK (LbK.idx q)) (Or.inl (by decide))]; exact (hL.2.2.2 q).1) (fun i y a b c d => off _ _ _ _ (inK (LbK.lea a b)) (Or.inl (by decide)) (Or.inl (by decide)) y c d) (fun q y c d => off _ _ _ _ (inK (LbK.idx q)) (Or.inl (by decide)) (Or.inl (by decide)) y c d)
    · obtain ⟨f1, f2, f3, f4, f5⟩ := hV.2.2.1 q
      have ll := inK (LbK.vls (D := Dm) (k := k) q)
      refine ⟨f1, by rw [sz _ _ _ _ ll (Or.inl (by decide))]; exact f2, by rw [off0 _ _ _ _ ll (Or.inl (by decide)) (Or.inl (by decide))]; exact f3, f4, fun y x1 x2 => ?_⟩
      have := off _ _ _ _ ll (Or.inl (by decide)) (Or.inl (by decide)) (1 + y) (by omega) (by omega)
      rw [← Int.add_assoc] at this
      rw [this]
      exact f5 y x1 x2
    · by_cases e : i = j
      · subst e
        rw [hvL i x1 (by omega), if_pos rfl, hvS i x1 (by omega), if_pos rfl, hv, u0, u1, sz _ _ _ _ (inK lv) (Or.inl (by decide))]
        have us : ∀ t, 0 ≤ t → t < s - 1 → Rz 1024 4 Dc' (vQ Dm k i t) = Rz 1024 4 Dc (vQ Dm k i t) := fun t a b => off0 _ _ _ _ (inK (lq t a (by omega))) (Or.inl (by decide)) (Or.inr (Or.inl (by omega)))
        refine ⟨c1, hL', c3, rfl, rfl, ?_, fun t y1 y2 => ?_⟩
        · by_cases z : s = 0
          · rw [if_pos z] at hx
            rw [← hx, ux, z]
            by_cases z2 : pcs L' = 0
            · rw [if_neg (by omega), if_pos z2]
            · rw [if_pos (by omega), if_neg z2, hvQ2 0 (by omega) (by omega), z, Int.sub_zero]
          · have e1 : v + 2 ≠ x := by
              rw [hx, if_neg z]
              have := h.dis (inK lv) (inK (lq (s - 1) (by omega) (by omega))) (Or.inl (by decide))
              have := ub (s - 1) (by omega) (by omega)
              omega
            rw [uo (v + 2) (by omega) (by omega) e1 (fun t a b => by
              have d1 := (hg t a b).dis h (inK lv)
              have d2 := ub' (s + t) (by omega) (by omega)
              omega), c6, if_neg (by omega), if_neg (by omega), hvQ1 i 0 x1 (by omega) (by omega) (by omega) (Or.inr (by omega))]
        · by_cases z : t < s
          · rw [hvQ1 i t x1 (by omega) y1 (by omega) (Or.inr z), sz _ _ _ _ (inK (lq t y1 (by omega))) (Or.inr (Or.inl (by omega))), ← hsu t y1 z]
            refine ⟨(c7 t y1 (by omega)).1, ?_⟩
            by_cases z2 : t = s - 1
            · have e1 : vQ Dm k i t = x := by rw [hx, if_neg (by omega), z2]
              rw [e1, ux]
              by_cases z3 : s < pcs L'
              · rw [if_pos z3, if_pos (by omega), hvQ2 (t + 1) (by omega) (by omega), show t + 1 - s = 0 by omega]
              · rw [if_neg z3, if_neg (by omega)]
            · rw [us t y1 (by omega), (c7 t y1 (by omega)).2, if_pos (by omega), if_pos (by omega), hvQ1 i (t + 1) x1 (by omega) (by omega) (by omega) (Or.inr (by omega))]
          · have e1 := hg (t - s) (by omega) (by omega)
            rw [show s + (t - s) = t by omega] at e1
            rw [hvQ2 t (by omega) y2, hz _ (fun i' z1 z2 => e1.ne (inK (lq i' (by omega) z2))) (by have := e1.1; have := e1.2.1; omega), e1.1, ug (t - s) (by omega) (by omega)]
            refine ⟨rfl, ?_⟩
            by_cases z3 : t + 1 < pcs L'
            · rw [if_pos (by omega), if_pos z3, hvQ2 (t + 1) (by omega) z3, show t + 1 - s = t - s + 1 by omega]
            · rw [if_neg (by omega), if_neg z3]
      · obtain ⟨d1, d2, d3, d4, d5, d6, d7⟩ := vb i x1 x2
        have li : Lb T R S Dm 54 (8 * k + i) (vP Dm k i) 3 := inK (LbK.val x1 x2)
        have p4 := pcs_bd d2
        have ui := fun y a b => off _ _ _ _ li (Or.inr (by omega)) (Or.inl (by decide)) y a b
        rw [hvL i x1 (by omega), if_neg e, hvS i x1 (by omega), if_neg e, sz _ _ _ _ li (Or.inl (by decide)), off0 _ _ _ _ li (Or.inr (by omega)) (Or.inl (by decide)), ui 1 (by omega) (by omega), ui 2 (by omega) (by omega)]
        refine ⟨d1, d2, d3, d4, d5, ?_, fun t y1 y2 => ?_⟩
        · rw [d6]
          by_cases z : pcs (vL Dm k i) = 0
          · rw [if_pos z, if_pos z]
          · rw [if_neg z, if_neg z, hvQ1 i 0 x1 (by omega) (by omega) (by omega) (Or.inl e)]
        · have lt := inK (LbK.pie (D := Dm) x1 x2 y1 y2)
          rw [hvQ1 i t x1 (by omega) y1 (by omega) (Or.inl e), sz _ _ _ _ lt (Or.inr (by omega)), off0 _ _ _ _ lt (Or.inl (by decide)) (Or.inr (by omega))]
          refine ⟨(d7 t y1 y2).1, ?_⟩
          rw [(d7 t y1 y2).2]
          by_cases z : t + 1 < pcs (vL Dm k i)
          · rw [if_pos z, if_pos z, hvQ1 i (t + 1) x1 (by omega) (by omega) (by omega) (Or.inl e)]
          · rw [if_neg z, if_neg z]
  refine h.one hk hT hC h25 h5 h6 hMS hKR (fun a i p t l e => ⟨sz a i p t l ?_, off a i p t l ?_ ?_⟩) (fun a i a' i' => a = a' ∧ i = i') (fun a i p => a = 55 ∧ ∃ t, 0 ≤ t ∧ t < pcs L' - s ∧ i = 4 * (8 * k + j) + s + t ∧ p = g t) (fun a i b j a' i' z1 z2 => ⟨z1.1.trans z2.1.symm, z1.2.trans z2.2.symm⟩) (fun a i b j' p z1 z2 => ?_) (fun a i p t l => ?_)
  · by_cases z : a = 55 ∧ 4 * (8 * k + j) + s ≤ i ∧ i < 4 * (8 * k + j) + pcs L0
    · obtain ⟨z1, z2, z3⟩ := z
      subst z1
      have := lq (i - 4 * (8 * k + j)) (by omega) (by omega)
      rw [show 4 * (8 * k + j) + (i - 4 * (8 * k + j)) = i by omega] at this
      exact absurd this (e _ _)
    · omega
  · by_cases z : a = 54 ∧ i = 8 * k + j
    · obtain ⟨z1, z2⟩ := z
      subst z1 z2
      exact absurd lv (e _ _)
    · omega
  · by_cases z : a = 55 ∧ i = 4 * (8 * k + j) + (s - 1) ∧ s ≠ 0
    · obtain ⟨z1, z2, z3⟩ := z
      subst z1 z2
      exact absurd (lq (s - 1) (by omega) (by omega)) (e _ _)
    · omega
  · obtain ⟨z1, t, z3, z4, z5, z6⟩ := z1
    obtain ⟨y1, t', y3, y4, y5, y6⟩ := z2
    refine ⟨by omega, ?_⟩
    by_cases q : t = t'
    · omega
    · by_cases q2 : t < t'
      · exact absurd (z6.symm.trans y6) (hgn t t' z3 q2 y4)
      · exact absurd (y6.symm.trans z6) (hgn t' t y3 (by omega) z4)
  · rcases l with ⟨m1, m2, m3, m4⟩ | ⟨m1, m2, m3, m4, m5⟩ | ⟨m1, j', m2, m3, m4, m5, m6⟩ | ⟨m1, m2, m3, m4, m5⟩ | ⟨m1, j', m2, m3, m4, m5, m6⟩ | ⟨m1, j', t', m2, m3, m4, m5, m6, m7, m8⟩
    · subst m1 m2 m3 m4
      rw [e40]
      exact Or.inl ⟨40, i, 6, LbK.key, rfl, rfl⟩
    · subst m1 m2 m4 m5
      rw [m 42 (by decide) (by decide) (by decide) (by decide)] at m3
      rw [m 43 (by decide) (by decide) (by decide) (by decide)]
      exact Or.inl ⟨43, i, 9, LbK.idx m3, rfl, rfl⟩
    · subst m1 m4 m5 m6
      rw [m 42 (by decide) (by decide) (by decide) (by decide)] at m3
      rw [eml]
      exact Or.inl ⟨44, _, 5, LbK.lea m2 m3, rfl, rfl⟩
    · subst m1 m2 m4 m5
      rw [m 48 (by decide) (by decide) (by decide) (by decide)] at m3
      rw [m 49 (by decide) (by decide) (by decide) (by decide)]
      exact Or.inl ⟨49, i, _, LbK.vls m3, rfl, rfl⟩
    · subst m1 m4 m5 m6
      rw [m 48 (by decide) (by decide) (by decide) (by decide)] at m3
      rw [evP]
      exact Or.inl ⟨54, _, 3, LbK.val m2 m3, rfl, rfl⟩
    · rw [m 48 (by decide) (by decide) (by decide) (by decide)] at m3
      rw [hvL j' m2 (by omega)] at m5
      subst m1 m6 m7
      by_cases e : j' = j
      · subst e
        rw [if_pos rfl] at m5
        by_cases z : t' < s
        · rw [hvQ1 j' t' m2 (by omega) m4 (by omega) (Or.inr z)]
          exact Or.inl ⟨55, _, _, lq t' m4 (by omega), rfl, rfl⟩
        · have e1 := hg (t' - s) (by omega) (by omega)
          rw [hvQ2 t' (by omega) m5]
          exact Or.inr ⟨⟨rfl, t' - s, by omega, by omega, by omega, rfl⟩, e1.2.2⟩
      · rw [if_neg e] at m5
        have p4 := pcs_bd (vb j' m2 m3).2.1
        rw [hvQ1 j' t' m2 (by omega) m4 (by omega) (Or.inl e)]
        exact Or.inl ⟨55, _, _, LbK.pie m2 m3 m4 m5, rfl, rfl⟩
end VALUE
