/-! one value more -/
section MORE
variable {T : Int → Prop} {R S : Int → Int} {Dc Dm Dc' Dm' : DD}
theorem T0.more {k n x L P v l z sd' p : Int} {q : Int → Int} (h : T0 T R S Dc Dm) (hk : 0 ≤ k ∧ k < 80) (hT : T k) (hn : Rz 240 48 Dm k = n) (hn8 : n < 8) (hnl : Rz 240 39 Dm k = -1) (hp : Rz 240 40 Dm k = p) (hx : 0 ≤ x ∧ x ≤ 99) (hnew : ∀ j, 0 ≤ j → j < n → vN Dm k j ≠ x) (hL : 0 ≤ L ∧ L ≤ 30) (hP : P = pcs L)
    (hv : Fs T R S Dc Dm v 3) (hq : ∀ i, 0 ≤ i → i < P → Fs T R S Dc Dm (q i) (2 + upc L i)) (hqn : ∀ i i', 0 ≤ i → i < i' → i' < P → q i ≠ q i') (hvq : ∀ i, 0 ≤ i → i < P → v ≠ q i)
    (hl : (1 ≤ n ∧ l = Rz 240 49 Dm k ∧ z = Rz 240 50 Dm k ∧ n + 2 ≤ z) ∨ (Fs T R S Dc Dm l z ∧ (z = 5 ∨ z = 9) ∧ n + 2 ≤ z ∧ l ≠ v ∧ ∀ i, 0 ≤ i → i < P → l ≠ q i))
    (hC : CR Dc' Dm') (h25 : Dc' 2 5 = Dm' 35 0) (h5 : Dc' 5 = Dc 5) (h6 : Dc' 6 = Dc 6) (hm : ∀ b, 36 ≤ b → b ≤ 47 → Dm' b = Dm b) (hMS : ∀ i, 0 ≤ i → i < 80 → i ≠ k → MS Dm Dm' i)
    (h48 : Rz 240 48 Dm' k = n + 1) (h49 : Rz 240 49 Dm' k = l) (h50 : Rz 240 50 Dm' k = z) (hvN : ∀ i, 0 ≤ i → i < 8 → vN Dm' k i = if i = n then x else vN Dm k i) (hvS : ∀ i, 0 ≤ i → i < 8 → vS Dm' k i = if i = n then sd' else vS Dm k i) (hvL : ∀ i, 0 ≤ i → i < 8 → vL Dm' k i = if i = n then L else vL Dm k i) (hvP : ∀ i, 0 ≤ i → i < 8 → vP Dm' k i = if i = n then v else vP Dm k i)
    (hvQ1 : ∀ i t, 0 ≤ i → i < n → 0 ≤ t → t < 4 → vQ Dm' k i t = vQ Dm k i t) (hvQ2 : ∀ t, 0 ≤ t → t < P → vQ Dm' k n t = q t)
    (hz : ∀ u, (1 ≤ n → l ≠ Rz 240 49 Dm k → u ≠ Rz 240 49 Dm k) → 0 < Rz 1024 3 Dc u → Rz 1024 3 Dc' u = Rz 1024 3 Dc u)
    (u3 : Rz 1024 4 Dc' (p + 3) = l) (ul : Rz 1024 4 Dc' l = n + 1) (ui : ∀ j, 0 ≤ j → j < n → Rz 1024 4 Dc' (l + 1 + j) = vP Dm k j) (un : Rz 1024 4 Dc' (l + 1 + n) = v) (uv : Rz 1024 4 Dc' v = x * 31 + L) (uv1 : Rz 1024 4 Dc' (v + 1) = sd') (uv2 : Rz 1024 4 Dc' (v + 2) = if 0 < P then q 0 else 0) (uq : ∀ i, 0 ≤ i → i < P → Rz 1024 4 Dc' (q i) = if i + 1 < P then q (i + 1) else 0)
    (uo : ∀ u, u ≠ p + 3 → (u < l ∨ l + z ≤ u) → (u < v ∨ v + 3 ≤ u) → (∀ i, 0 ≤ i → i < P → u ≠ q i) → (1 ≤ n → l ≠ Rz 240 49 Dm k → u ≠ Rz 240 49 Dm k) → Rz 1024 4 Dc' u = Rz 1024 4 Dc u) : T0 T R S Dc' Dm' := by
  have hkr := h.2.2.2.1 k hk.1 hk.2 hT
  have inK : ∀ {a i p s}, LbK Dm k a i p s → Lb T R S Dm a i p s := fun z => Or.inl ⟨k, hk.1, hk.2, hT, z⟩
  obtain ⟨r1, r2, ⟨w0, w1, w4, w5⟩, ⟨b1, b2, b3, b4⟩, hLC, hW, hV⟩ := id hkr
  rw [hn] at hV
  have n8 := hLC.1
  have v8 := hV.1
  have vb := hV.2.2.2.1
  have hp1 := pcs_bd hL
  have ub' : ∀ i, 0 ≤ i → i < P → 1 ≤ upc L i := fun i a b => (upc_bd hL ⟨a, by omega⟩).1
  have lk : Lb T R S Dm 40 k p 6 := by rw [← hp]; exact inK LbK.key
  have ll : 1 ≤ n → Lb T R S Dm 49 k (Rz 240 49 Dm k) (Rz 240 50 Dm k) := fun e => inK (LbK.vls (by omega))
  have lout : ∀ a i p' t, Lb T R S Dm a i p' t → (a ≠ 49 ∨ i ≠ k) → l + z ≤ p' ∨ p' + t ≤ l := fun a i p' t e e1 => by
    rcases hl with ⟨e2, e3, e4, e5⟩ | ⟨e2, e3, e4, e5, e6⟩
    · have := h.dis e (ll e2) e1
      omega
    · have := e2.dis h e
      omega
  have qout : ∀ a i p' t, Lb T R S Dm a i p' t → ∀ y, 0 ≤ y → y < t → ∀ i', 0 ≤ i' → i' < P → p' + y ≠ q i' := fun a i p' t e y y1 y2 i' x1 x2 => by
    have := (hq i' x1 x2).dis h e
    have := ub' i' x1 x2
    omega
  have off : ∀ a i p' t, Lb T R S Dm a i p' t → (a ≠ 49 ∨ i ≠ k) → ∀ y, 0 ≤ y → y < t → (a ≠ 40 ∨ i ≠ k ∨ y ≠ 3) → Rz 1024 4 Dc' (p' + y) = Rz 1024 4 Dc (p' + y) := fun a i p' t e e1 y y1 y2 e2 => by
    have d1 := lout a i p' t e e1
    have d2 := hv.dis h e
    refine uo _ ?_ (by omega) (by omega) (qout a i p' t e y y1 y2) (fun z1 _ => by
      have := h.dis e (ll z1) e1
      have := h.lb (ll z1)
      omega)
    by_cases g : a = 40 ∧ i = k
    · obtain ⟨g1, g2⟩ := g
      subst g1 g2
      have : p' = p := by
        rcases e with ⟨k', x1, x2, x3, e⟩ | ⟨e, -⟩
        · rcases e with ⟨y1, y2, y3, y4⟩ | ⟨y1, -⟩ | ⟨y1, -⟩ | ⟨y1, -⟩ | ⟨y1, -⟩ | ⟨y1, -⟩
          · rw [y3, ← y2, hp]
          all_goals omega
        · omega
      omega
    · have := h.dis e lk (by omega)
      omega
  have off0 : ∀ a i p' t, Lb T R S Dm a i p' t → (a ≠ 49 ∨ i ≠ k) → Rz 1024 4 Dc' p' = Rz 1024 4 Dc p' := fun a i p' t e e1 => by
    have := off a i p' t e e1 0 (Int.le_refl _) (by have := h.lb e; omega) (by omega)
    rw [Int.add_zero] at this
    exact this
  have sz : ∀ a i p' t, Lb T R S Dm a i p' t → (a ≠ 49 ∨ i ≠ k) → Rz 1024 3 Dc' p' = Rz 1024 3 Dc p' := fun a i p' t e e1 => hz p' (fun y1 _ => h.ne e (ll y1) e1) (by have := h.lb e; omega)
  have szf : ∀ p' s, Fs T R S Dc Dm p' s → Rz 1024 3 Dc' p' = s := fun p' s e => by
    rw [hz p' (fun y1 _ => e.ne (ll y1)) (by have := e.1; have := e.2.1; omega), e.1]
  have m : ∀ b, 36 ≤ b → b ≤ 47 → ∀ n i, Rz n b Dm' i = Rz n b Dm i := fun b x y n i => R_cg (hm b x y) i
  have eml : ml Dm' = ml Dm := by funext a b; exact m 44 (by decide) (by decide) _ _
  have emc : mc Dm' = mc Dm := by funext a b; exact m 45 (by decide) (by decide) _ _
  have eme : me Dm' = me Dm := by funext a b; exact m 46 (by decide) (by decide) _ _
  have emn : mn_ Dm' = mn_ Dm := by funext a b; exact m 47 (by decide) (by decide) _ _
  have emE : mE Dm' = mE Dm := by funext a b; unfold mE; rw [eme, emn]
  have e40 : Rz 240 40 Dm' k = p := by rw [m 40 (by decide) (by decide), hp]
  have uk0 := off0 _ _ _ _ lk (Or.inl (by decide))
  have uk := fun y a b c => off _ _ _ _ lk (Or.inl (by decide)) y a b c
  have hKR : KR Dc' Dm' k := by
    have hW' : MW Dm' k := by
      unfold MW at hW ⊢
      rw [emc, eme, emn, m 42 (by decide) (by decide)]
      exact hW
    rw [hp] at r1 r2 w0 w1 w4 w5 hLC hV
    unfold KR
    rw [eml, emc, emE, e40, R_cg h5, m 37 (by decide) (by decide), m 38 (by decide) (by decide), m 39 (by decide) (by decide), m 41 (by decide) (by decide), m 42 (by decide) (by decide), m 43 (by decide) (by decide), h48, h49, h50, sz _ _ _ _ lk (Or.inl (by decide)), uk0, uk 1 (by omega) (by omega) (by omega), uk 2 (by omega) (by omega) (by omega), u3, uk 4 (by omega) (by omega) (by omega), uk 5 (by omega) (by omega) (by omega)]
    refine ⟨r1, r2, ⟨w0, w1, w4, w5⟩, ⟨b1, b2, Or.inl hnl, fun e => by omega⟩, ?_, hW', ⟨by omega, by rw [if_neg (by omega)], fun _ => ?_, fun i x1 x2 => ?_, fun i i' x1 x2 x3 => ?_⟩⟩
    · exact hLC.cong rfl (fun _ _ _ => ⟨rfl, rfl⟩) (fun _ _ _ => rfl) (fun _ => rfl) (fun i a b => by rw [sz _ _ _ _ (inK (LbK.lea a b)) (Or.inl (by decide))]; exact (hLC.2.2.1 i a b).1) (fun q => by rw [sz _ _ _ _ (inK (LbK.idx q)) (Or.inl (by decide))]; exact (hLC.2.2.2 q).1) (fun i y a b c d => off _ _ _ _ (inK (LbK.lea a b)) (Or.inl (by decide)) y c d (Or.inl (by decide))) (fun q y c d => off _ _ _ _ (inK (LbK.idx q)) (Or.inl (by decide)) y c d (Or.inl (by decide)))
    · refine ⟨?_, ?_, ul, ?_, fun j x1 x2 => ?_⟩
      · rcases hl with ⟨e2, e3, e4, e5⟩ | e2
        · rw [e4]; exact (hV.2.2.1 e2).1
        · exact e2.2.1
      · rcases hl with ⟨e2, e3, e4, e5⟩ | e2
        · have := (hV.2.2.1 e2).2.1
          have := hV.2.2.1 e2
          rw [e3, e4, hz _ (fun _ y => absurd e3 y) (by omega)]
          omega
        · exact szf _ _ e2.1
      · rcases hl with e2 | e2 <;> omega
      · rw [hvP j x1 (by omega)]
        by_cases e : j = n
        · rw [if_pos e, e, un]
        · rw [if_neg e, ui j x1 (by omega)]
    · rw [hvN i x1 (by omega), hvS i x1 (by omega), hvL i x1 (by omega), hvP i x1 (by omega)]
      by_cases e : i = n
      · subst e
        rw [if_pos rfl, if_pos rfl, if_pos rfl, if_pos rfl, uv, uv1, uv2, szf _ _ hv]
        refine ⟨hx, hL, rfl, rfl, rfl, ?_, fun t t1 t2 => ?_⟩
        · by_cases y : pcs L = 0
          · rw [if_pos y, if_neg (by omega)]
          · rw [if_neg y, if_pos (by omega), hvQ2 0 (by omega) (by omega)]
        · rw [hvQ2 t t1 (by omega), szf _ _ (hq t t1 (by omega)), uq t t1 (by omega)]
          refine ⟨rfl, ?_⟩
          by_cases y : t + 1 < pcs L
          · rw [if_pos y, if_pos (by omega), hvQ2 (t + 1) (by omega) (by omega)]
          · rw [if_neg y, if_neg (by omega)]
      · rw [if_neg e, if_neg e, if_neg e, if_neg e]
        have x2' : i < n := by omega
        obtain ⟨d1, d2, d3, d4, d5, d6, d7⟩ := vb i x1 x2'
        have li : Lb T R S Dm 54 (8 * k + i) (vP Dm k i) 3 := inK (LbK.val x1 (by omega))
        have p4 := pcs_bd d2
        have uu := fun y a b => off _ _ _ _ li (Or.inl (by decide)) y a b (Or.inl (by decide))
        rw [sz _ _ _ _ li (Or.inl (by decide)), off0 _ _ _ _ li (Or.inl (by decide)), uu 1 (by omega) (by omega), uu 2 (by omega) (by omega)]
        refine ⟨d1, d2, d3, d4, d5, ?_, fun t y1 y2 => ?_⟩
        · rw [d6]
          by_cases y : pcs (vL Dm k i) = 0
          · rw [if_pos y, if_pos y]
          · rw [if_neg y, if_neg y, hvQ1 i 0 x1 x2' (by omega) (by omega)]
        · have lt := inK (LbK.pie (D := Dm) x1 (by omega) y1 y2)
          rw [hvQ1 i t x1 x2' y1 (by omega), sz _ _ _ _ lt (Or.inl (by decide)), off0 _ _ _ _ lt (Or.inl (by decide))]
          refine ⟨(d7 t y1 y2).1, ?_⟩
          rw [(d7 t y1 y2).2]
          by_cases y : t + 1 < pcs (vL Dm k i)
          · rw [if_pos y, if_pos y, hvQ1 i (t + 1) x1 x2' (by omega) (by omega)]
          · rw [if_neg y, if_neg y]
    · rw [hvN i x1 (by omega), hvN i' (by omega) (by omega), if_neg (show ¬ i = n by omega)]
      by_cases e : i' = n
      · rw [if_pos e]
        exact hnew i x1 (by omega)
      · rw [if_neg e]
        exact hV.2.2.2.2 i i' x1 x2 (by omega)
  refine h.one hk hT hC h25 h5 h6 hMS hKR (fun a i p' t l' e => ⟨sz a i p' t l' ?_, fun y y1 y2 => off a i p' t l' ?_ y y1 y2 ?_⟩) (fun a i a' i' => a = a' ∧ i = i') (fun a i p' => (a = 54 ∧ i = 8 * k + n ∧ p' = v) ∨ (a = 55 ∧ ∃ t, 0 ≤ t ∧ t < P ∧ i = 4 * (8 * k + n) + t ∧ p' = q t) ∨ (a = 49 ∧ i = k ∧ p' = l ∧ l ≠ v ∧ ∀ i, 0 ≤ i → i < P → l ≠ q i)) (fun a i b j a' i' z1 z2 => ⟨z1.1.trans z2.1.symm, z1.2.trans z2.2.symm⟩) (fun a i b j' p' z1 z2 => ?_) (fun a i p' t l' => ?_)
  · by_cases y : a = 49 ∧ i = k
    · obtain ⟨y1, y2⟩ := y
      subst y1 y2
      rcases l' with ⟨k', x1, x2, x3, l'⟩ | ⟨y, -⟩
      · have : k' = i := by rcases l' with ⟨y1, -⟩ | ⟨y1, -⟩ | ⟨y1, -⟩ | ⟨-, y1, -⟩ | ⟨y1, -⟩ | ⟨y1, -⟩ <;> omega
        subst this
        exact absurd l' (e _ _)
      · omega
    · omega
  · by_cases y : a = 49 ∧ i = k
    · obtain ⟨y1, y2⟩ := y
      subst y1 y2
      rcases l' with ⟨k', x1, x2, x3, l'⟩ | ⟨y, -⟩
      · have : k' = i := by rcases l' with ⟨y1, -⟩ | ⟨y1, -⟩ | ⟨y1, -⟩ | ⟨-, y1, -⟩ | ⟨y1, -⟩ | ⟨y1, -⟩ <;> omega
        subst this
        exact absurd l' (e _ _)
      · omega
    · omega
  · by_cases y : a = 40 ∧ i = k
    · obtain ⟨y1, y2⟩ := y
      subst y1 y2
      rcases l' with ⟨k', x1, x2, x3, l'⟩ | ⟨y, -⟩
      · have : k' = i := by rcases l' with ⟨-, y1, -⟩ | ⟨y1, -⟩ | ⟨y1, -⟩ | ⟨y1, -⟩ | ⟨y1, -⟩ | ⟨y1, -⟩ <;> omega
        subst this
        exact absurd l' (e _ _)
      · omega
    · omega
  · rcases z1 with ⟨x1, x2, x3⟩ | ⟨x1, t, x2, x3, x4, x5⟩ | ⟨x1, x2, x3, x4, x5⟩ <;> rcases z2 with ⟨y1, y2, y3⟩ | ⟨y1, t', y2, y3, y4, y5⟩ | ⟨y1, y2, y3, y4, y5⟩
    · omega
    · exact absurd (x3.symm.trans y5) (hvq t' y2 y3)
    · exact absurd (y3.symm.trans x3) y4
    · exact absurd (y3.symm.trans x5) (hvq t x2 x3)
    · refine ⟨by omega, ?_⟩
      by_cases e : t = t'
      · omega
      · by_cases e2 : t < t'
        · exact absurd (x5.symm.trans y5) (hqn t t' x2 e2 y3)
        · exact absurd (y5.symm.trans x5) (hqn t' t y2 (by omega) x3)
    · exact absurd (y3.symm.trans x5) (y5 t x2 x3)
    · exact absurd (x3.symm.trans y3) x4
    · exact absurd (x3.symm.trans y5) (x5 t' y2 y3)
    · omega
  · rcases l' with ⟨m1, m2, m3, m4⟩ | ⟨m1, m2, m3, m4, m5⟩ | ⟨m1, j', m2, m3, m4, m5, m6⟩ | ⟨m1, m2, m3, m4, m5⟩ | ⟨m1, j', m2, m3, m4, m5, m6⟩ | ⟨m1, j', t', m2, m3, m4, m5, m6, m7, m8⟩
    · subst m1 m2 m3 m4
      rw [m 40 (by decide) (by decide)]
      exact Or.inl ⟨40, i, 6, LbK.key, rfl, rfl⟩
    · subst m1 m2 m4 m5
      rw [m 42 (by decide) (by decide)] at m3
      rw [m 43 (by decide) (by decide)]
      exact Or.inl ⟨43, i, 9, LbK.idx m3, rfl, rfl⟩
    · subst m1 m4 m5 m6
      rw [m 42 (by decide) (by decide)] at m3
      rw [eml]
      exact Or.inl ⟨44, _, 5, LbK.lea m2 m3, rfl, rfl⟩
    · subst m1 m2 m4 m5
      rw [h49]
      rcases hl with ⟨e2, e3, e4, e5⟩ | ⟨e2, e3, e4, e5, e6⟩
      · rw [e3]
        exact Or.inl ⟨49, i, _, LbK.vls (by omega), rfl, rfl⟩
      · exact Or.inr ⟨Or.inr (Or.inr ⟨rfl, rfl, rfl, e5, e6⟩), e2.2.2⟩
    · rw [h48] at m3
      rw [hvP j' m2 (by omega)] at m5
      subst m1 m4 m5 m6
      by_cases e : j' = n
      · rw [if_pos e, e]
        exact Or.inr ⟨Or.inl ⟨rfl, rfl, rfl⟩, hv.2.2⟩
      · rw [if_neg e]
        exact Or.inl ⟨54, _, 3, LbK.val m2 (by omega), rfl, rfl⟩
    · rw [h48] at m3
      rw [hvL j' m2 (by omega)] at m5
      subst m1 m6 m7
      by_cases e : j' = n
      · subst e
        rw [if_pos rfl] at m5
        rw [hvQ2 t' m4 (by omega)]
        exact Or.inr ⟨Or.inr (Or.inl ⟨rfl, t', m4, by omega, rfl, rfl⟩), (hq t' m4 (by omega)).2.2⟩
      · rw [if_neg e] at m5
        have p4 := pcs_bd (vb j' m2 (by omega)).2.1
        rw [hvQ1 j' t' m2 (by omega) m4 (by omega)]
        exact Or.inl ⟨55, _, _, LbK.pie m2 (by omega) m4 m5, rfl, rfl⟩
end MORE
