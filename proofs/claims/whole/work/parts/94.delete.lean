/-! delete -/
section DELETE
variable {Dc Dm : DD} {m : Int}
theorem T0.c36 {T : Int → Prop} {R S : Int → Int} {Dm' : DD} (h : T0 T R S Dc Dm) (e : ∀ b, 33 ≤ b → b ≤ 55 → b ≠ 36 → Dm' b = Dm b) : T0 T R S Dc Dm' := by
  unfold T0 CR KR Own Lb LbK MW mE ml mc me mn_ vN vS vL vP vQ Rz at h ⊢
  rw [e 33 (by decide) (by decide) (by decide), e 34 (by decide) (by decide) (by decide), e 35 (by decide) (by decide) (by decide), e 37 (by decide) (by decide) (by decide), e 38 (by decide) (by decide) (by decide), e 39 (by decide) (by decide) (by decide), e 40 (by decide) (by decide) (by decide), e 41 (by decide) (by decide) (by decide), e 42 (by decide) (by decide) (by decide), e 43 (by decide) (by decide) (by decide), e 44 (by decide) (by decide) (by decide), e 45 (by decide) (by decide) (by decide), e 46 (by decide) (by decide) (by decide), e 47 (by decide) (by decide) (by decide), e 48 (by decide) (by decide) (by decide), e 49 (by decide) (by decide) (by decide), e 50 (by decide) (by decide) (by decide), e 51 (by decide) (by decide) (by decide), e 52 (by decide) (by decide) (by decide), e 53 (by decide) (by decide) (by decide), e 54 (by decide) (by decide) (by decide), e 55 (by decide) (by decide) (by decide)]
  exact h
/-- all cells of a key but those of its list of subkeys are given back -/
theorem cells_both {c n p : Int} (h : Tr Dc Dm) (hc : 0 ≤ c ∧ c < 80) (ht : th Dm c) (hn : Rz 240 48 Dm c = n) (hp : Rz 240 40 Dm c = p) :
    ∃ D3 E3 V1 V P Q, (∀ K : Int → Int → DD → Res, (bnd (pV_dropAll p Dc) fun v1 D4 => bnd (pC_giveBack p D4) fun v2 D5 => K v1 v2 D5) = K V1 6 D3) ∧ V = V1 + 6 ∧
      (∀ K : DD → Res, (pM_delete_48 c fu 0 Dm fun D5 => rdA 240 49 c D5 fun v3 => jnR (fun (D6 : DD) => rdA 240 40 c D6 fun v4 => bnd (pM_gives v4 D6) fun _ D7 => K D7) fun J2 => if (w32 v3) = (-1) then J2 D5 else (rdA 240 49 c D5 fun v9 => bnd (pM_gives v9 D5) fun _ D13 => J2 D13)) = K E3) ∧
      Gu Dc Dm D3 E3 V P Q (fun u => u = p + 3) ∧ ∀ u, Q u → ∃ a i s, LbK Dm c a i u s := by
  have hkr := St.kr h hc ht
  have inK : ∀ {a i p s}, LbK Dm c a i p s → Lb (th Dm) (Rz 768 56 Dm) (Rz 768 57 Dm) Dm a i p s := fun z => Or.inl ⟨c, hc.1, hc.2, ht, z⟩
  have hV := hkr.2.2.2.2.2.2
  obtain ⟨p1, p2, p3⟩ := h.place hc ht
  rw [hp] at p1 p2 p3
  rw [hn, hp] at hV
  have h49 := hkr.2.2.2.1.2.2.2
  rw [hn] at h49
  have v8 := hV.1
  have hk6 := hkr.lb LbK.key
  rw [hp] at hk6
  have vc := valueCount_c hV h.1.1.1 (by have := h.1.1.2.1; omega) (p := p) (by omega) rfl
  obtain ⟨D1, E1, V1, P1, Q1, a1, a2, a3, a4⟩ := drop_loop h.1 hc ht hn hp n.toNat fu fu 0 0 _ _ Dc Dm (fu_gt (by omega)) (fu_gt (by omega)) (by omega) (by omega) (Gb.rf h.1.1) (fun u z => z.elim)
  obtain ⟨G1, G2, G3, G4, G5, G6, G7, G8, G9, G10⟩ := id a3
  have nQ : ∀ (a : Nat) i u s, LbK Dm c a i u s → a ≠ 54 → a ≠ 55 → ¬ Q1 u := fun a i u s l e1 e2 z => by
    obtain ⟨i1, s1, y | y⟩ := a4 u z
    · exact e1 (h.1.2.2.2.2.2 _ _ _ _ _ _ _ (inK l) (inK y)).1
    · exact e2 (h.1.2.2.2.2.2 _ _ _ _ _ _ _ (inK l) (inK y)).1
  have u3 : Rz 1024 4 D1 (p + 3) = if n = 0 then 0 else Rz 240 49 Dm c := by rw [R_cg (G2 4 (by decide))]; exact hV.2.1
  have m49 : Rz 240 49 E1 c = Rz 240 49 Dm c := R_cg (G4 49 (by decide)) c
  by_cases z : n = 0
  · have s6 : Rz 1024 3 D1 p = 6 := by
      have l := LbK.key (D := Dm) (k := c)
      rw [hp] at l
      rw [G8 p (nQ _ _ _ _ l (by decide) (by decide)) (by omega)]
      exact hk6.1
    obtain ⟨D3, E3, b1, b2, b3⟩ := Gu.give G1 s6 (by decide)
    refine ⟨D3, E3, V1, V1 + 6, fun t => P1 t ∨ sec p 6 t, fun u => Q1 u ∨ u = p, fun K => ?_, rfl, fun K => ?_, ?_, fun u y => ?_⟩
    · unfold pV_dropAll
      simp only [ltR, jnR]
      rw [vc, a1, w32_of (z := n) (by omega), if_pos z, bnd_ok, b1, bnd_ok, Int.add_zero]
    · rw [a2]
      simp only [jnR]
      rw [rdA_R (by omega), m49, h49 z, w32_m1, if_pos rfl, rdA_R (by omega), R_cg (G4 40 (by decide)), hp, b2, bnd_ok]
    · obtain ⟨g1, g2, g3, g4, g5, g6, g7, g8, gu, g9, g10⟩ := a3.gu.trans b3
      exact ⟨g1, g2, g3, g4, g5, g6, g7, g8, fun u _ => gu u (by simp), g9, g10⟩
    · rcases y with y | y
      · obtain ⟨i, s, y | y⟩ := a4 u y
        · exact ⟨_, _, _, y⟩
        · exact ⟨_, _, _, y⟩
      · have l := LbK.key (D := Dm) (k := c)
        rw [hp] at l
        rw [y]
        exact ⟨_, _, _, l⟩
  · obtain ⟨c1, c2, c3, c4, -⟩ := hV.2.2.1 (by omega)
    have ll : LbK Dm c 49 c (Rz 240 49 Dm c) (Rz 240 50 Dm c) := LbK.vls (by omega)
    have lt := h.1.1.1.1 (Rz 240 49 Dm c) (by omega)
    have ls := h.1.1.2.1
    have l := LbK.key (D := Dm) (k := c)
    rw [hp] at l
    have hne : p ≠ Rz 240 49 Dm c := h.1.ne (inK l) (inK ll) (Or.inl (by decide))
    have gp := Gu.put (u := p + 3) (v := 0) G1
    have sl : Rz 1024 3 (Tz 1024 4 D1 (p + 3) 0) (Rz 240 49 Dm c) = Rz 240 50 Dm c := by
      rw [R_T_ot (by decide), G8 _ (nQ _ _ _ _ ll (by decide) (by decide)) (by omega), c2]
    obtain ⟨D2, E2, b1, b2, b3⟩ := Gu.give gp.1 sl (by omega)
    have s6 : Rz 1024 3 D2 p = 6 := by
      have e1 : Rz 1024 3 D1 p = 6 := by
        rw [G8 p (nQ _ _ _ _ l (by decide) (by decide)) (by omega)]
        exact hk6.1
      rw [b3.2.2.2.2.2.2.2.1 p hne (by rw [R_T_ot (by decide), e1]; decide), R_T_ot (by decide), e1]
    obtain ⟨D3, E3, d1, d2, d3⟩ := Gu.give b3.1 s6 (by decide)
    refine ⟨D3, E3, V1 + Rz 240 50 Dm c, V1 + Rz 240 50 Dm c + 6, fun t => ((P1 t ∨ False) ∨ sec (Rz 240 49 Dm c) (Rz 240 50 Dm c) t) ∨ sec p 6 t, fun u => Q1 u ∨ u = Rz 240 49 Dm c ∨ u = p, fun K => ?_, rfl, fun K => ?_, ?_, fun u y => ?_⟩
    · unfold pV_dropAll pV_giveBackList pI_putUnit pI_unitAt
      simp only [ltR, jnR, gD]
      rw [vc, a1, w32_of (z := n) (by omega), if_neg z, rd_R (by omega), u3, if_neg z, sto_T (by omega), b1, bnd_ok, bnd_ok, bnd_ok, d1, bnd_ok]
    · rw [a2]
      simp only [jnR]
      rw [rdA_R (by omega), m49, w32_of (by omega), if_neg (by omega), rdA_R (by omega), m49, b2, bnd_ok, rdA_R (by omega), R_cg (b3.2.2.2.1 40 (by decide)), R_cg (G4 40 (by decide)), hp, d2, bnd_ok]
    · obtain ⟨g1, g2, g3, g4, g5, g6, g7, g8, gu, g9, g10⟩ := ((a3.gu.trans gp).trans b3).trans d3
      exact ⟨g1, g2, g3, g4, g5, by rw [g6]; omega, g7, fun u x => g8 u (fun y => by
        rcases y with ((y | y) | y) | y
        · exact x (Or.inl y)
        · exact y
        · exact x (Or.inr (Or.inl y))
        · exact x (Or.inr (Or.inr y))), fun u x => gu u (by simp; exact x), g9, g10⟩
    · rcases y with y | y | y
      · obtain ⟨i, s, y | y⟩ := a4 u y
        · exact ⟨_, _, _, y⟩
        · exact ⟨_, _, _, y⟩
      · rw [y]; exact ⟨_, _, _, ll⟩
      · rw [y]; exact ⟨_, _, _, l⟩
theorem deletes_both {c k nm ri p : Int} (h : Tr Dc Dm) (hD : Dy Dc Dm) (hW : Wt Dc Dm m) (hm : m ≤ 700000) (hc : 1 ≤ c ∧ c < 80) (htc : th Dm c) (hkc : Rz 240 37 Dm c = k) (hnm : Rz 240 38 Dm c = nm) (hri : Rz 240 41 Dm c = ri) (hp : Rz 240 40 Dm c = p) (h42 : Rz 240 42 Dm c = 0) (h41 : Dm 32 41 = 0) :
    ∃ Dc' Dm' v, (bnd (pV_dropAll p Dc) fun v1 D4 => bnd (pC_giveBack p D4) fun v2 D5 => gD (pI_setPlaceOfKey c 0 D5) fun D6 => bnd (pS_leave ri D6) fun v3 D7 => bnd (pL_takeOut (pI_placeOfKey k D7) (rk nm * 80 + c) D7) fun v4 D8 => gD (pW_end c D8) fun D9 => bnd (pH_tellUpwards k 1 D9) fun _ D10 => okR (v1 + v2 + v3 + v4) D10) = okR v Dc' ∧
      (pM_delete_48 c fu 0 Dm fun D5 => rdA 240 49 c D5 fun v3 => jnR (fun (D6 : DD) => rdA 240 40 c D6 fun v4 => bnd (pM_gives v4 D6) fun _ D7 => rdA 240 41 c D7 fun v5 => bnd (pM_leavesRights v5 D7) fun _ D8 => rdA 240 37 c D8 fun v6 => rdA 240 38 c D8 fun v7 => bnd (pM_goes v6 v7 D8) fun _ D9 => wrZ 240 36 c 0 D9 fun D10 => bnd (pM_forgets c D10) fun _ D11 => rdA 240 37 c D11 fun v8 => bnd (pM_changes v8 1 D11) fun _ D12 => okR (D12 32 41) D12) fun J2 => if (w32 v3) = (-1) then J2 D5 else (rdA 240 49 c D5 fun v9 => bnd (pM_gives v9 D5) fun _ D13 => J2 D13)) = okR v Dm' ∧
      Tr Dc' Dm' ∧ Dy Dc' Dm' ∧ Wt Dc' Dm' (m + 80) ∧ Oc Dc Dc' ∧ Om Dm Dm' ∧ Dm' 32 42 = Dm 32 42 := by
  obtain ⟨a1, a2, a3⟩ := h.2.2.2.2.1 c hc.1 hc.2 htc
  rw [hkc] at a1 a2 a3
  obtain ⟨j0, b1, b2, b3⟩ := a3
  have htk : th Dm k := a2
  have hk : 0 ≤ k ∧ k < 80 := by omega
  have hc0 : 0 ≤ c ∧ c < 80 := by omega
  obtain ⟨c1, c2, c3⟩ := h.2.2.2.2.2.1 k j0 hk.1 hk.2 a2 b1 b2
  rw [b3, hnm] at c3
  have hkr := St.kr h hk htk
  have hkrc := St.kr h hc0 htc
  obtain ⟨pk1, pk2, pk3⟩ := h.place hk htk
  have hW0 := hkr.2.2.2.2.2.1
  have hrb := hkrc.2.2.2.1.2.1
  have hhas := h.2.has hc0 htc hrb
  rw [hri] at hrb hhas
  have inT : ∀ {a i p s}, LbK Dm c a i p s → Lb (th Dm) (Rz 768 56 Dm) (Rz 768 57 Dm) Dm a i p s := fun z => Or.inl ⟨c, hc0.1, hc0.2, htc, z⟩
  have one : ∀ i, 0 ≤ i → i < sm (mc Dm k) (Rz 240 42 Dm k) → i ≠ j0 → me Dm k i ≠ c := fun i y1 y2 y3 y4 => by
    have := (h.2.2.2.2.2.1 k i hk.1 hk.2 a2 y1 y2).2.2
    rw [y4, hnm] at this
    by_cases z : i < j0
    · have := hW0.2.2.2 i j0 y1 z b2
      rw [← c3, ‹nm = mn_ Dm k i›] at this
      omega
    · have := hW0.2.2.2 j0 i b1 (by omega) y2
      rw [← c3, ‹nm = mn_ Dm k i›] at this
      omega
  -- its cells
  obtain ⟨D3, E3, V1, V, P, Q, d1, d2, d3, ⟨g1, g2, g3, g4, g5, g6, g7, g8, gu, g9, g10⟩, d5⟩ := cells_both (n := Rz 240 48 Dm c) h hc0 htc rfl hp
  have h4 : T0 (fun j => th Dm j ∧ j ≠ c) (Rz 768 56 Dm) (Rz 768 57 Dm) (Tz 80 5 D3 c 0) E3 := by
    refine h.1.less hc0 htc (g1.cong (fun u => R_T_ot (by decide)) (by rw [T_ot (by decide)]) (fun _ _ _ => rfl) rfl) ?_ (R_T_eq hc0) (fun i e => ?_) ?_ (fun b x y => g4 b (by simp only [List.mem_cons, List.not_mem_nil, or_false]; omega)) (fun a i q s l e => ?_)
    · rw [T_ot (by decide), g2 2 (by decide), g4 35 (by decide)]
      exact h.1.2.1
    · rw [R_T_ne e, R_cg (g2 5 (by decide))]
    · rw [T_ot (by decide), g2 6 (by decide)]
    · have hlb := h.1.lb l
      have nq : ¬ Q q := fun z => by
        obtain ⟨a', i', s', l'⟩ := d5 q z
        obtain ⟨e1, e2⟩ := h.1.2.2.2.2.2 _ _ _ _ _ _ _ l (inT l')
        subst e1 e2
        exact e _ _ l'
      have lk := LbK.key (D := Dm) (k := c)
      have hd := h.1.dis l (inT lk) (by
        by_cases z : a = 40 ∧ i = c
        · obtain ⟨z1, z2⟩ := z
          subst z1 z2
          exact absurd lk (e _ _)
        · omega)
      rw [hp] at hd
      exact ⟨by rw [R_T_ot (by decide), g8 q nq (by omega)], fun j x y => by rw [R_T_ot (by decide), gu _ (by omega)]⟩
  have e56 : Rz 768 56 E3 = Rz 768 56 Dm := Rz_fn (g4 56 (by decide))
  have e57 : Rz 768 57 E3 = Rz 768 57 Dm := Rz_fn (g4 57 (by decide))
  rw [← e56, ← e57] at h4
  obtain ⟨D5, E5, P5, v5, l1, l2, l3, l4, l5, l6, l7, l8, l9, l10, l11, l12⟩ := h4.leave (r := ri) (by omega) (by rw [e57]; exact hhas.1) (by rw [e57]; omega)
  have f5 : ∀ b, b ∉ [32, 33, 56, 57, 58] → E5 b = Dm b := fun b hb => (l8 b hb).trans (g4 b (nsub hb (by decide)))
  have kne : k ≠ c := by omega
  obtain ⟨N, hN⟩ : ∃ N, sm (mc Dm k) (Rz 240 42 Dm k) = N := ⟨_, rfl⟩
  have emc : mc E5 = mc Dm := by funext a b; exact R_cg (f5 45 (by decide)) _
  have eme : me E5 = me Dm := by funext a b; exact R_cg (f5 46 (by decide)) _
  have emn : mn_ E5 = mn_ Dm := by funext a b; exact R_cg (f5 47 (by decide)) _
  have e42 : Rz 240 42 E5 = Rz 240 42 Dm := Rz_fn (f5 42 (by decide))
  have e40 : Rz 240 40 E5 = Rz 240 40 Dm := Rz_fn (f5 40 (by decide))
  obtain ⟨D6, E6, P6, v6, n6, s1, s2, s3, s4, s5, s6, s7, s8, s9, s10, s11, s12⟩ := l3.goes (k := k) (x := nm) (n := Rz 240 42 Dm k) (N := N) (t := j0) hk ⟨htk, kne⟩ (by rw [e42]) (by rw [emc, hN]) ⟨b1, by omega⟩ (by rw [emn]; exact c3.symm)
  rw [e40, show mE E5 k j0 = rk nm * 80 + c by unfold mE; rw [emn, eme, b3, ← c3]] at s1
  have f6 : ∀ b, b ∉ [32, 33, 42, 43, 44, 45, 46, 47, 56, 57, 58] → E6 b = Dm b := fun b hb => (s8.1 b (nsub hb (by decide))).trans (f5 b (nsub hb (by decide)))
  have oc6 : ∀ b, b ∉ [3, 4, 5, 6, 7] → D6 b = Dc b := fun b hb => by rw [s4 b (nsub hb (by decide)), l4 b (nsub hb (by decide)), T_ot (nin hb (by decide)), g2 b (nsub hb (by decide))]
  have o32 : ∀ j, j ≠ 41 → E6 32 j = Dm 32 j := fun j hj => by rw [s8.2.1 j hj, l9 j hj, g5 j hj]
  have f7 : ∀ b, b ∉ [32, 33, 36, 42, 43, 44, 45, 46, 47, 56, 57, 58] → Tz 240 36 E6 c 0 b = Dm b := fun b hb => by rw [T_ot (nin hb (by decide)), f6 b (nsub hb (by decide))]
  have hW6 : Wt D6 (Tz 240 36 E6 c 0) m := hW.cong (oc6 16 (by decide)) (oc6 17 (by decide)) (oc6 18 (by decide)) (oc6 19 (by decide)) (by rw [oc6 15 (by decide)]) (f7 59 (by decide)) (f7 60 (by decide)) (f7 61 (by decide)) (f7 62 (by decide)) (f7 63 (by decide)) (by rw [T_ot (by decide), o32 29 (by decide)])
  obtain ⟨E8, w1, w2, w3, w4, w5, w6⟩ := start_both hW6 hc0
  obtain ⟨w7, w8⟩ := w6 0 0 E8 (by omega) (Or.inl rfl) (fun _ _ => rfl) (fun i _ _ => by
    by_cases e : i = c
    · rw [if_pos e, e, w4]
    · rw [if_neg e]) (fun i _ _ => by
    by_cases e : i = c
    · rw [if_pos e, e, w5]
    · rw [if_neg e])
  have pe : pW_end c D6 = pW_start c 0 0 D6 := rfl
  rw [← pe] at w7 w8
  -- the state after it
  have f8 : ∀ b, b ∉ [32, 36, 59, 60, 61, 62, 63] → E8 b = E6 b := fun b hb => (w2 b (nsub hb (by decide))).trans (T_ot (nin hb (by decide)))
  have n36 : ∀ i, Rz 240 36 E8 i = if i = c then 0 else Rz 240 36 Dm i := fun i => by
    rw [R_cg (w2 36 (by decide)), R_T, R_cg (f6 36 (by decide))]
    by_cases e : i = c
    · rw [if_pos ⟨by omega, e⟩, if_pos e]
    · rw [if_neg (fun u => e u.2), if_neg e]
  have eth : th E8 = fun j => th Dm j ∧ j ≠ c := by
    funext i
    unfold th
    rw [n36 i]
    by_cases e : i = c
    · rw [if_pos e]
      exact propext ⟨fun z => absurd z (by decide), fun z => absurd e z.2⟩
    · rw [if_neg e]
      exact propext ⟨fun z => ⟨z, e⟩, fun z => z.1⟩
  have e568 : Rz 768 56 E8 = Rz 768 56 E5 := Rz_fn ((f8 56 (by decide)).trans (s8.1 56 (by decide)))
  have e578 : Rz 768 57 E8 = Rz 768 57 E5 := Rz_fn ((f8 57 (by decide)).trans (s8.1 57 (by decide)))
  have hT8 : T0 (th E8) (Rz 768 56 E8) (Rz 768 57 E8) (pW_end c D6) E8 := by
    rw [eth, e568, e578]
    have z1 : T0 (fun j => th Dm j ∧ j ≠ c) (Rz 768 56 E5) (Rz 768 57 E5) (pW_end c D6) E6 := s3.eqv (w8 2 (by decide)) (w8 3 (by decide)) (w8 4 (by decide)) (w8 5 (by decide)) (w8 6 (by decide)) (fun _ _ _ => rfl)
    exact z1.c36 (fun b x y z => f8 b (by simp only [List.mem_cons, List.not_mem_nil, or_false]; omega))
  have emc8 : mc E8 = mc E6 := by funext a b; exact R_cg (f8 45 (by decide)) _
  have eme8 : me E8 = me E6 := by funext a b; exact R_cg (f8 46 (by decide)) _
  have emn8 : mn_ E8 = mn_ E6 := by funext a b; exact R_cg (f8 47 (by decide)) _
  have e428 : Rz 240 42 E8 = Rz 240 42 E6 := Rz_fn (f8 42 (by decide))
  have sN : sm (mc E8 k) (Rz 240 42 E8 k) = N - 1 := by rw [emc8, e428, s10, s11]
  have lst : ∀ j, 0 ≤ j → j < N - 1 → me E8 k j = delF (me Dm k) j0 j ∧ mn_ E8 k j = delF (mn_ Dm k) j0 j := fun j u1 u2 => by
    rw [eme8, emn8, ← eme, ← emn]
    exact s12 j u1 u2
  have hMT : MT E8 := by
    refine h.2.delete (c := c) (k := k) (fun i u1 u2 u3 => (St.kr h ⟨u1, u2⟩ u3).2.2.2.2.2.1) hc htc hkc (by rw [h42, sm_0]) (fun b hb => ?_) (fun i _ _ => n36 i) (fun i u1 u2 u3 u4 u5 => ?_) (fun j u1 u2 => ?_) (fun i u1 u2 u3 => ?_) (fun r _ _ => ?_)
    · rw [f8 b (by simp only [List.mem_cons, List.not_mem_nil, or_false] at hb ⊢; omega), f6 b (by simp only [List.mem_cons, List.not_mem_nil, or_false] at hb ⊢; omega)]
    · rw [emc8, eme8, emn8, e428]
      exact ((MS.eqv (Dm := Dm) (Dm' := E5) (fun b x y => f5 b (by simp only [List.mem_cons, List.not_mem_nil, or_false]; omega)) i).trans (s8.ms u4)).list (St.kr h ⟨u1, u2⟩ u3).2.2.2.2.2.1
    · rw [sN] at u2
      obtain ⟨d1, d2⟩ := lst j u1 u2
      rw [hN]
      unfold delF at d1 d2
      by_cases e : j < j0
      · rw [if_pos e] at d1 d2
        exact ⟨j, u1, by omega, one j u1 (by rw [hN]; omega) (by omega), d1, d2⟩
      · rw [if_neg e] at d1 d2
        exact ⟨j + 1, by omega, by omega, one (j + 1) (by omega) (by rw [hN]; omega) (by omega), d1, d2⟩
    · rw [hN] at u2
      rw [sN]
      have e0 : i ≠ j0 := fun z => u3 (by rw [z, b3])
      by_cases e : i < j0
      · refine ⟨i, u1, by omega, ?_⟩
        rw [(lst i u1 (by omega)).1]
        unfold delF
        rw [if_pos e]
      · refine ⟨i - 1, by omega, by omega, ?_⟩
        rw [(lst (i - 1) (by omega) (by omega)).1]
        unfold delF
        rw [if_neg (by omega), show i - 1 + 1 = i by omega]
    · rw [e578, l12, e57, hri]
      by_cases e : r = ri
      · rw [if_pos e, if_pos e.symm, e]
      · rw [if_neg e, if_neg (fun z => e z.symm), Int.sub_zero]
  have hDy8 : Dy (pW_end c D6) E8 := fun s u1 u2 => by
    have z1 : bit (pW_end c D6 7 5) s = bit (D6 7 5) s := by rw [w8 7 (by decide)]
    have z2 : bit (Tz 80 5 D3 c 0 7 5) s = bit (D3 7 5) s := by rw [T_ot (by decide)]
    rw [z1, s6 s u1 u2, l6 s u1 u2, z2, g9 s u1 u2, hD s u1 u2, R_cg (f8 58 (by decide)), s7 s u1 u2, l7 s u1 u2, g10 s u1 u2]
  have hTr : Tr (pW_end c D6) E8 := ⟨hT8, hMT⟩
  obtain ⟨Dc9, Dm9, t1, t2, t3, t4, t5, t6, t7, t8, -, -, t9⟩ := told_both hTr hDy8 w7 (by omega) hk (by rw [eth]; exact ⟨htk, kne⟩) (x := 1) (by omega)
  have hhi : HiEq Dm E8 := (g7.trans (l10.trans s8.2.2.1)).trans ((HiEq.T (n := 240) (a := 36) (m := 80) (by decide) (by omega)).trans (HiEq.ot (fun b x y => w2 b (by simp only [List.mem_cons, List.not_mem_nil, or_false]; omega))))
  have o8 : ∀ j, j ≠ 29 → E8 32 j = E6 32 j := fun j hj => by rw [w3 j hj, T_ot (by decide)]
  refine ⟨Dc9, Dm9, V1 + 6 + v5 + v6, ?_, ?_, t3, t4, t5, fun b hb => (t6 b hb).trans ((w8 b (by simp only [List.mem_cons, List.not_mem_nil, or_false]; omega)).trans (oc6 b (by simp only [List.mem_cons, List.not_mem_nil, or_false]; omega))), (show Om Dm E8 from ⟨fun b hb => by rw [f8 b (by simp only [List.mem_cons, List.not_mem_nil, or_false]; omega), f6 b (by simp only [List.mem_cons, List.not_mem_nil, or_false]; omega)], fun j x y => by rw [o8 j (by omega), o32 j (by omega)], hhi⟩).trans t7, by rw [t8, o8 42 (by decide), o32 42 (by decide)]⟩
  · refine (d1 (fun v1 v2 D5 => gD (pI_setPlaceOfKey c 0 D5) fun D6 => bnd (pS_leave ri D6) fun v3 D7 => bnd (pL_takeOut (pI_placeOfKey k D7) (rk nm * 80 + c) D7) fun v4 D8 => gD (pW_end c D8) fun D9 => bnd (pH_tellUpwards k 1 D9) fun _ D10 => okR (v1 + v2 + v3 + v4) D10)).trans ?_
    have q1 : pI_placeOfKey k D5 = Rz 240 40 Dm k := by
      unfold pI_placeOfKey
      rw [rd_R (by omega), (l3.2.2.2.1 k hk.1 hk.2 ⟨htk, kne⟩).1, e40]
    unfold pI_setPlaceOfKey
    simp only [gD]
    rw [sto_T (by omega), l1, bnd_ok, q1, s1, bnd_ok, t1, bnd_ok]
  · refine (d3 (fun D7 => rdA 240 41 c D7 fun v5 => bnd (pM_leavesRights v5 D7) fun _ D8 => rdA 240 37 c D8 fun v6 => rdA 240 38 c D8 fun v7 => bnd (pM_goes v6 v7 D8) fun _ D9 => wrZ 240 36 c 0 D9 fun D10 => bnd (pM_forgets c D10) fun _ D11 => rdA 240 37 c D11 fun v8 => bnd (pM_changes v8 1 D11) fun _ D12 => okR (D12 32 41) D12)).trans ?_
    rw [rdA_R (by omega), R_cg (g4 41 (by decide)), hri, l2, bnd_ok, rdA_R (by omega), R_cg (f5 37 (by decide)), hkc, rdA_R (by omega), R_cg (f5 38 (by decide)), hnm, s2, bnd_ok, wrZ_T (by omega) (Or.inl rfl), w1, bnd_ok, rdA_R (by omega), R_cg (f8 37 (by decide)), R_cg (f6 37 (by decide)), hkc, t2, bnd_ok]
    congr 1
    rw [t9 41 (by decide), o8 41 (by decide), s9, l11, g6, h41, d2]
    omega
theorem delete_ok {c : Int} (h : St Dc Dm m) (hc : -2147483648 ≤ c ∧ c ≤ 2147483647) : Ok [(0, 1), (2, 2)] Dc Dm m (pH_delete c Dc) (pM_delete c Dm) := by
  rcases key_both h.1 hc with ⟨g, t, c0, c1, d⟩ | ⟨g, c0, c1, d⟩
  · have hkr := St.kr h.1 g t
    obtain ⟨p1, p2, p3⟩ := h.1.place g t
    have hn := hkr.2.2.2.2.2.1.1
    have lc := leafCount_c hkr.2.2.2.2.1 h.1.1.1.1 (by have := h.1.1.1.2.1; omega) (p := Rz 240 40 Dm c) (by omega) rfl
    have nr : pH_requireNotRoot c Dc = if c = 0 then erR 2 Dc else okR 0 Dc := by
      unfold pH_requireNotRoot
      rw [w32_of hc]
    have ns : pH_requireNoSubkeys (Rz 240 40 Dm c) Dc = if Rz 240 42 Dm c = 0 then okR 0 Dc else erR 2 Dc := by
      unfold pH_requireNoSubkeys
      rw [lc, w32_of (by omega)]
    by_cases q : c = 0 ∨ 0 < Rz 240 42 Dm c
    · refine Ok.err (v := 0) (e := 2) (x := 2) h (by decide) ?_ ?_
      · unfold pM_delete
        rw [d, bnd_ok]
        simp only [jnR]
        rw [w32_k1, if_neg (by decide), w32_of hc]
        by_cases z : c = 0
        · rw [if_pos z, failsP (by omega), bnd_ok, w32_k1, if_neg (by decide)]
        · rw [if_neg z, rdA_R (by omega), w32_of (z := Rz 240 42 Dm c) (by omega), if_pos (by omega), failsP (by omega), bnd_ok, w32_k1, if_neg (by decide)]
      · unfold pH_delete pI_placeOfKey
        simp only [ltR]
        rw [c1, bnd_ok, nr]
        by_cases z : c = 0
        · rw [if_pos z, bnd_er]
        · rw [if_neg z, bnd_ok, rd_R (i := c) (by omega), p1, ns, if_neg (by omega), bnd_er]
    · have z0 : ¬ c = 0 := fun z => q (Or.inl z)
      have z1 : Rz 240 42 Dm c = 0 := by
        by_cases z : Rz 240 42 Dm c = 0
        · exact z
        · exact absurd (Or.inr (by omega)) q
      have hB : Tr Dc (up2 (up2 Dm 32 42 0) 32 41 0) := h.1.eqv (fun _ _ _ => rfl) (fun b _ _ => by rw [up2_ot (by omega), up2_ot (by omega)])
      have e : ∀ a, a ≠ 32 → ∀ n i, Rz n a (up2 (up2 Dm 32 42 0) 32 41 0) i = Rz n a Dm i := fun a ha n i => by rw [R_up2_ot ha, R_up2_ot ha]
      obtain ⟨Dc', Dm', v, k1, k2, k3, k4, k5, k6, k7, k8⟩ := deletes_both (m := m) (c := c) hB (h.2.1.cong rfl (by rw [up2_ot (by decide), up2_ot (by decide)])) (h.2.2.1.cong rfl rfl rfl rfl rfl (by rw [up2_ot (by decide), up2_ot (by decide)]) (by rw [up2_ot (by decide), up2_ot (by decide)]) (by rw [up2_ot (by decide), up2_ot (by decide)]) (by rw [up2_ot (by decide), up2_ot (by decide)]) (by rw [up2_ot (by decide), up2_ot (by decide)]) (by rw [up2_nk (by decide), up2_nk (by decide)])) h.2.2.2 ⟨by omega, g.2⟩ (by
          unfold th
          rw [e 36 (by decide)]
          exact t) (e 37 (by decide) _ _) (e 38 (by decide) _ _) (e 41 (by decide) _ _) (e 40 (by decide) _ _) (by rw [e 42 (by decide)]; exact z1) (up2_eq ..)
      refine ⟨Dc', Dm', v, ?_, ⟨k3, k4, k5⟩, k6, ((Om.thr Dm 0).trans (show Om (up2 Dm 32 42 0) (up2 (up2 Dm 32 42 0) 32 41 0) from ⟨fun b hb => up2_ot (by omega), fun j a b => up2_nk (by omega), fun a k h1 h2 _ => by rw [up2_ot (by omega)]⟩)).trans k7, Or.inl ⟨?_, by rw [k8, up2_nk (by decide), up2_eq]⟩⟩
      · unfold pM_delete
        rw [d, bnd_ok]
        simp only [gD]
        rw [show (jnR (fun (x1 : Int) (D2 : DD) => bnd (pM_fails x1 D2) fun v2 D3 => if (w32 v2) = 0 then (pM_delete_48 c fu 0 (up2 D3 32 41 0) fun D5 => rdA 240 49 c D5 fun v3 => jnR (fun (D6 : DD) => rdA 240 40 c D6 fun v4 => bnd (pM_gives v4 D6) fun _ D7 => rdA 240 41 c D7 fun v5 => bnd (pM_leavesRights v5 D7) fun _ D8 => rdA 240 37 c D8 fun v6 => rdA 240 38 c D8 fun v7 => bnd (pM_goes v6 v7 D8) fun _ D9 => wrZ 240 36 c 0 D9 fun D10 => bnd (pM_forgets c D10) fun _ D11 => rdA 240 37 c D11 fun v8 => bnd (pM_changes v8 1 D11) fun _ D12 => okR (D12 32 41) D12) fun J2 => if (w32 v3) = (-1) then J2 D5 else (rdA 240 49 c D5 fun v9 => bnd (pM_gives v9 D5) fun _ D13 => J2 D13)) else okR 0 D3) fun J1 => if (w32 1) = 0 then J1 1 Dm else (jnR (fun (D14 : DD) => J1 2 D14) fun J3 => if (w32 c) = 0 then J3 Dm else (rdA 240 42 c Dm fun v10 => if 0 < (w32 v10) then J3 Dm else J1 0 Dm))) = (bnd (pM_fails 0 Dm) fun v2 D3 => if (w32 v2) = 0 then (pM_delete_48 c fu 0 (up2 D3 32 41 0) fun D5 => rdA 240 49 c D5 fun v3 => jnR (fun (D6 : DD) => rdA 240 40 c D6 fun v4 => bnd (pM_gives v4 D6) fun _ D7 => rdA 240 41 c D7 fun v5 => bnd (pM_leavesRights v5 D7) fun _ D8 => rdA 240 37 c D8 fun v6 => rdA 240 38 c D8 fun v7 => bnd (pM_goes v6 v7 D8) fun _ D9 => wrZ 240 36 c 0 D9 fun D10 => bnd (pM_forgets c D10) fun _ D11 => rdA 240 37 c D11 fun v8 => bnd (pM_changes v8 1 D11) fun _ D12 => okR (D12 32 41) D12) fun J2 => if (w32 v3) = (-1) then J2 D5 else (rdA 240 49 c D5 fun v9 => bnd (pM_gives v9 D5) fun _ D13 => J2 D13)) else okR 0 D3) from by
          simp only [jnR]
          rw [w32_k1, if_neg (by decide), w32_of hc, if_neg z0, rdA_R (by omega), z1, w32_k0, if_neg (by decide)]]
        rw [fails0, bnd_ok, w32_k0, if_pos rfl]
        exact k2
      · have u0 : pI_unitAt (Rz 240 40 Dm c + 0) Dc = Rz 240 38 Dm c := by
          unfold pI_unitAt
          rw [Int.add_zero, rd_R (by omega), hkr.2.2.1.1]
        have u1 : pI_unitAt (Rz 240 40 Dm c + 1) Dc = Rz 240 37 Dm c := by
          unfold pI_unitAt
          rw [rd_R (by omega), hkr.2.2.1.2.1]
        have u4 : pI_unitAt (Rz 240 40 Dm c + 4) Dc = Rz 240 41 Dm c := by
          unfold pI_unitAt
          rw [rd_R (by omega), hkr.2.2.1.2.2.1]
        have pc : pI_placeOfKey c Dc = Rz 240 40 Dm c := by
          unfold pI_placeOfKey
          rw [rd_R (by omega), p1]
        unfold pH_delete pL_entryOf
        simp only [ltR]
        rw [c1, bnd_ok, nr, if_neg z0, bnd_ok, pc, ns, if_pos z1, bnd_ok, u0, u1, u4, rank_c hkr.2.2.2.1.1]
        exact k1
  · refine Ok.err (v := 0) (e := 0) (x := 1) h (by decide) ?_ ?_
    · unfold pM_delete
      rw [d, bnd_ok]
      simp only [jnR]
      rw [w32_k0, if_pos rfl, failsP (by omega), bnd_ok, w32_k1, if_neg (by decide)]
    · unfold pH_delete
      rw [c1, bnd_er]
end DELETE
