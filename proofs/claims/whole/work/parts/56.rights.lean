/-! rights -/
section RIGHTS
variable {T : Int → Prop} {R S R' S' : Int → Int} {Dc Dm Dc' Dm' : DD}
/-- one cell of rights alone is changed -/
theorem T0.rig {r : Int} (h : T0 T R S Dc Dm) (hC : CR Dc' Dm') (h25 : Dc' 2 5 = Dm' 35 0) (h5 : Dc' 5 = Dc 5) (h6 : ∀ i, i ≠ r → Rz 256 6 Dc' i = Rz 256 6 Dc i) (hm : ∀ b, 36 ≤ b → b ≤ 55 → Dm' b = Dm b)
    (hR : ∀ i, 0 ≤ i → i < 256 → i ≠ r → R' i = R i ∧ S' i = S i) (hRR : RR R' S' Dc' r) (hF : ∀ a i p s, Lb T R S Dm a i p s → (a ≠ 56 ∨ i ≠ r) → Fr Dc Dc' p s)
    (hL : 1 ≤ S' r → (1 ≤ S r ∧ R' r = R r) ∨ ∀ b j t, ¬ Lb T R S Dm b j (R' r) t) : T0 T R' S' Dc' Dm' := by
  refine ⟨hC, h25, fun k a b c => ?_, fun k a b c => ?_, fun i a b => ?_, ?_⟩
  · rw [R_cg h5]; exact h.2.2.1 k a b c
  · exact (h.2.2.2.1 k a b c).frame (R_cg h5 k) (MS.eqv hm k) (fun x i p s l => hF x i p s (Or.inl ⟨k, a, b, c, l⟩) (Or.inl l.ne56))
  · by_cases e : i = r
    · subst e; exact hRR
    · obtain ⟨f1, f2⟩ := h.2.2.2.2.1 i a b
      obtain ⟨e1, e2⟩ := hR i a b e
      unfold RR
      rw [e1, e2, h6 i e]
      refine ⟨f1, fun q => ?_⟩
      obtain ⟨f3, f4, f5⟩ := f2 q
      obtain ⟨g1, g2⟩ := hF 56 i (R i) 2 (Or.inr ⟨rfl, a, b, q, rfl, rfl⟩) (Or.inr e)
      have := g2 0 (by omega) (by omega)
      rw [Int.add_zero] at this
      exact ⟨f3, by rw [g1, f4], by rw [this, f5]⟩
  · have cls : ∀ a i p s, Lb T R' S' Dm' a i p s → Lb T R S Dm a i p s ∨ (a = 56 ∧ i = r ∧ ∀ b j t, ¬ Lb T R S Dm b j p t) := by
      intro a i p s l
      rcases l with ⟨k, l1, l2, l3, l4⟩ | ⟨l1, l2, l3, l4, l5, l6⟩
      · exact Or.inl (Or.inl ⟨k, l1, l2, l3, (LbK.eqv hm).1 l4⟩)
      · by_cases e : i = r
        · subst e
          rcases hL l4 with ⟨z1, z2⟩ | z
          · exact Or.inl (Or.inr ⟨l1, l2, l3, z1, by rw [l5, z2], l6⟩)
          · exact Or.inr ⟨l1, rfl, by rw [l5]; exact z⟩
        · obtain ⟨e1, e2⟩ := hR i l2 l3 e
          rw [e2] at l4
          rw [e1] at l5
          exact Or.inl (Or.inr ⟨l1, l2, l3, l4, l5, l6⟩)
    intro a i p s b j t l m
    rcases cls a i p s l with l | ⟨l1, l2, l3⟩ <;> rcases cls b j p t m with m | ⟨m1, m2, m3⟩
    · exact h.2.2.2.2.2 _ _ _ _ _ _ _ l m
    · exact absurd l (m3 _ _ _)
    · exact absurd m (l3 _ _ _)
    · exact ⟨by rw [l1, m1], by rw [l2, m2]⟩
theorem changeCount_c {D : DD} {r b p : Int} (hr : 0 ≤ r ∧ r < 256) (hp : Rz 256 6 D r = p) (hs : Rz 1024 3 D p = 2) (hp0 : 0 ≤ p ∧ p + 2 ≤ 1024) : ∃ D', pS_changeCount r b D = okR 0 D' ∧ Ef D D' (sec p 2) ∧ ∀ u, Rz 1024 4 D' u = if u = p then Rz 1024 4 D p + b else Rz 1024 4 D u := by
  obtain ⟨D', k1, k2⟩ := mark_class (D := Tz 1024 4 D p (Rz 1024 4 D p + b)) (p := p) (n := 2) (by rw [R_T_ot (by decide)]; exact hs) (by decide) hp0.1 hp0.2
  refine ⟨D', ?_, ⟨fun c h1 h2 => (k2.1 c h2).trans (T_ot h1), fun k hk => (k2.2.1 k hk).trans (by rw [T_ot (by decide)]), fun t x y => by rw [k2.2.2 t x y, T_ot (by decide)]⟩, fun u => ?_⟩
  · unfold pS_changeCount pI_placeOfRights pI_putUnit pI_unitAt
    simp only [ltR, gD]
    rw [rd_R (by omega), hp, rd_R (by omega), sto_T (by omega), k1, bnd_ok]
  · rw [R_cg (k2.1 4 (by decide)), R_T]
    by_cases g : u = p
    · rw [if_pos ⟨by omega, g⟩, if_pos g]
    · rw [if_neg (fun z => g z.2), if_neg g]
/-- one key more or less has these rights, and one is left -/
theorem T0.count {r b : Int} (h : T0 T R S Dc Dm) (hr : 0 ≤ r ∧ r < 256) (h1 : 1 ≤ S r) (h2 : 1 ≤ S r + b) : ∃ Dc', pS_changeCount r b Dc = okR 0 Dc' ∧ Ef Dc Dc' (sec (R r) 2) ∧ T0 T R (uI S r (S r + b)) Dc' Dm := by
  obtain ⟨f3, f4, f5⟩ := (h.2.2.2.2.1 r hr.1 hr.2).2 h1
  have l : Lb T R S Dm 56 r (R r) 2 := Or.inr ⟨rfl, hr.1, hr.2, h1, rfl, rfl⟩
  have ht := h.1.1.1 (R r) (by omega)
  have hsc := h.1.2.1
  obtain ⟨Dc', k1, k2, k3⟩ := changeCount_c (b := b) hr f3 f4 (by omega)
  have u1 : Rz 1024 4 Dc' (R r) = S r + b := by rw [k3, if_pos rfl, f5]
  refine ⟨Dc', k1, k2, ?_⟩
  refine h.rig (r := r) (h.1.cong k2.sz (by rw [k2.1 2 (by decide) (by decide)]) (fun u _ _ => rfl) rfl) (by rw [k2.1 2 (by decide) (by decide)]; exact h.2.1) (k2.1 5 (by decide) (by decide)) (fun i _ => R_cg (k2.1 6 (by decide) (by decide)) i) (fun c x y => rfl) (fun i _ _ q => ⟨rfl, uI_ne q⟩) ?_ (fun a i p s m q => ⟨k2.sz p, fun j x y => ?_⟩) (fun _ => Or.inl ⟨h1, rfl⟩)
  · unfold RR
    rw [uI_eq]
    exact ⟨fun q => by omega, fun _ => ⟨by rw [R_cg (k2.1 6 (by decide) (by decide)), f3], by rw [k2.sz, f4], u1⟩⟩
  · have := h.dis m l q
    rw [k3, if_neg (by omega)]
/-- a new cell of rights -/
theorem T0.newr {r p : Int} (h : T0 T R S Dc Dm) (hr : 0 ≤ r ∧ r < 256) (h0 : S r = 0) (hp : Fs T R S Dc Dm p 2) : ∃ Dc', pS_changeCount r 1 (Tz 1024 4 (Tz 256 6 Dc r p) p 0) = okR 0 Dc' ∧ (∀ b, b ∉ [4, 6, 7] → Dc' b = Dc b) ∧ (∀ k, k ≠ 5 → Dc' 7 k = Dc 7 k) ∧ (∀ t, 0 ≤ t → t < 64 → (bit (Dc' 7 5) t = true ↔ bit (Dc 7 5) t = true ∨ sec p 2 t)) ∧ T0 T (uI R r p) (uI S r 1) Dc' Dm := by
  have ht := h.1.1.1 p (by have := hp.1; omega)
  have hsc := h.1.2.1
  have hps := hp.1
  obtain ⟨Dc', k1, k2, k3⟩ := changeCount_c (D := Tz 1024 4 (Tz 256 6 Dc r p) p 0) (b := 1) (p := p) hr (by rw [R_T_ot (by decide), R_T_eq (by omega)]) (by rw [R_T_ot (by decide), R_T_ot (by decide)]; exact hps) (by omega)
  have fr : ∀ b, b ∉ [4, 6, 7] → Dc' b = Dc b := fun b hb => by rw [k2.1 b (nin hb (by decide)) (nin hb (by decide)), T_ot (nin hb (by decide)), T_ot (nin hb (by decide))]
  have s3 : ∀ u, Rz 1024 3 Dc' u = Rz 1024 3 Dc u := fun u => R_cg (fr 3 (by decide)) u
  refine ⟨Dc', k1, fr, fun k hk => by rw [k2.2.1 k hk, T_ot (by decide), T_ot (by decide)], fun t x y => by rw [k2.2.2 t x y, T_ot (by decide), T_ot (by decide)], ?_⟩
  refine h.rig (r := r) (h.1.cong s3 (by rw [fr 2 (by decide)]) (fun u _ _ => rfl) rfl) (by rw [fr 2 (by decide)]; exact h.2.1) (fr 5 (by decide)) (fun i q => ?_) (fun c x y => rfl) (fun i _ _ q => ⟨uI_ne q, uI_ne q⟩) ?_ (fun a i p' s m q => ⟨s3 p', fun j x y => ?_⟩) (fun _ => Or.inr ?_)
  · rw [R_cg (k2.1 6 (by decide) (by decide)), R_T_ot (by decide), R_T_ne q]
  · unfold RR
    rw [uI_eq, uI_eq]
    exact ⟨fun q => by omega, fun _ => ⟨by rw [R_cg (k2.1 6 (by decide) (by decide)), R_T_ot (by decide), R_T_eq (by omega)], by rw [s3, hps], by rw [k3, if_pos rfl, R_T_eq (by omega)]; rfl⟩⟩
  · have := hp.dis h m
    rw [k3, if_neg (by omega), R_T_ne (by omega), R_T_ot (by decide)]
  · rw [uI_eq]
    exact hp.2.2
theorem count_m {r b p : Int} (hr : 0 ≤ r ∧ r < 256) (hp : Rz 768 56 Dm r = p) (hs : Rz 3072 33 Dm p = 2) (hp0 : 0 ≤ p ∧ p + 2 ≤ 1024) : ∃ Dm', pM_writes (Rz 768 56 (Tz 768 57 Dm r b) r) (Tz 768 57 Dm r b) = okR 0 Dm' ∧ Mm (Tz 768 57 Dm r b) Dm' (sec p 2) := by
  rw [R_T_ot (by decide), hp]
  exact mark_model (by rw [R_T_ot (by decide)]; exact hs) (by decide) hp0.1 hp0.2
/-- one key less has these rights -/
theorem T0.leave {r : Int} (h : T0 T (Rz 768 56 Dm) (Rz 768 57 Dm) Dc Dm) (hr : 0 ≤ r ∧ r < 256) (h1 : 1 ≤ Rz 768 57 Dm r) (h2 : Rz 768 57 Dm r ≤ 1000) :
    ∃ Dc' Dm' P v, pS_leave r Dc = okR v Dc' ∧ pM_leavesRights r Dm = okR 0 Dm' ∧ T0 T (Rz 768 56 Dm') (Rz 768 57 Dm') Dc' Dm' ∧ (∀ b, b ∉ [3, 4, 6, 7] → Dc' b = Dc b) ∧ (∀ j, j ≠ 5 → Dc' 7 j = Dc 7 j) ∧ (∀ s, 0 ≤ s → s < 64 → (bit (Dc' 7 5) s = true ↔ bit (Dc 7 5) s = true ∨ P s)) ∧ Mb Dm Dm' P ∧
      (∀ b, b ∉ [32, 33, 56, 57, 58] → Dm' b = Dm b) ∧ (∀ j, j ≠ 41 → Dm' 32 j = Dm 32 j) ∧ HiEq Dm Dm' ∧ Dm' 32 41 = Dm 32 41 + v ∧ (∀ i, Rz 768 57 Dm' i = if i = r then Rz 768 57 Dm r - 1 else Rz 768 57 Dm i) := by
  obtain ⟨f3, f4, f5⟩ := (h.2.2.2.2.1 r hr.1 hr.2).2 h1
  have l : Lb T (Rz 768 56 Dm) (Rz 768 57 Dm) Dm 56 r (Rz 768 56 Dm r) 2 := Or.inr ⟨rfl, hr.1, hr.2, h1, rfl, rfl⟩
  have ht := h.1.1.1 (Rz 768 56 Dm r) (by omega)
  have hsc := h.1.2.1
  have m33 := h.1.2.2.2 (Rz 768 56 Dm r) (by omega) (by omega)
  obtain ⟨Dc1, k1, k2, k3⟩ := changeCount_c (b := -1) hr f3 f4 (by omega)
  obtain ⟨Dm1, g1, g2⟩ := count_m (Dm := Dm) (b := Rz 768 57 Dm r - 1) hr rfl (by rw [m33, f4]) (by omega)
  have e57 : ∀ i, Rz 768 57 Dm1 i = if i = r then Rz 768 57 Dm r - 1 else Rz 768 57 Dm i := fun i => by
    rw [R_cg (g2.1 57 (by decide)), R_T]
    by_cases q : i = r
    · rw [if_pos ⟨by omega, q⟩, if_pos q]
    · rw [if_neg (fun z => q z.2), if_neg q]
  have e56 : ∀ i, Rz 768 56 Dm1 i = Rz 768 56 Dm i := fun i => by rw [R_cg (g2.1 56 (by decide)), R_T_ot (by decide)]
  have mfr : ∀ b, b ∉ [57, 58] → Dm1 b = Dm b := fun b hb => (g2.1 b (nin hb (by decide))).trans (T_ot (nin hb (by decide)))
  have hi1 : HiEq Dm Dm1 := (HiEq.T (n := 768) (a := 57) (m := 256) (i := r) (by decide) (by omega)).trans (fun a k x y _ => by rw [g2.1 a (by omega)])
  have mb1 : Mb Dm Dm1 (sec (Rz 768 56 Dm r) 2) := fun t x y => by rw [g2.2 t x y, R_T_ot (by decide)]
  have uc : Rz 1024 4 Dc1 (Rz 768 56 Dm r) = Rz 768 57 Dm r - 1 := by rw [k3, if_pos rfl, f5]; rfl
  have f6 : Rz 256 6 Dc1 r = Rz 768 56 Dm r := by rw [R_cg (k2.1 6 (by decide) (by decide)), f3]
  have kw : pS_keysWith r Dc1 = Rz 768 57 Dm r - 1 := by
    unfold pS_keysWith pI_placeOfRights pI_unitAt
    simp only [ltR]
    rw [rd_R (by omega), f6, w32_of (z := Rz 768 56 Dm r) (by omega), if_neg (show ¬ Rz 768 56 Dm r = 0 by omega), rd_R (by omega), uc]
  have cl1 : pS_leave r Dc = if 1 < Rz 768 57 Dm r then okR 0 Dc1 else bnd (pC_giveBack (Rz 768 56 Dm r) (Tz 256 6 Dc1 r 0)) fun v1 D3 => okR v1 D3 := by
    unfold pS_leave
    rw [k1, bnd_ok, kw]
    unfold pI_placeOfRights pI_setPlaceOfRights
    simp only [ltR, gD]
    rw [w32_of (by omega), rd_R (by omega), f6, sto_T (by omega)]
    by_cases q : 1 < Rz 768 57 Dm r
    · rw [if_pos (by omega), if_pos q]
    · rw [if_neg (by omega), if_neg q]
  have ml1 : pM_leavesRights r Dm = if 1 < Rz 768 57 Dm r then okR 0 Dm1 else bnd (pM_gives (Rz 768 56 Dm r) Dm1) fun _ D3 => okR 0 (Tz 768 56 D3 r (-1)) := by
    unfold pM_leavesRights
    rw [rdA_R (by omega), wrA_T (by omega), rdA_R (by omega), g1, bnd_ok, rdA_R (by omega), e57, if_pos rfl, w32_of (by omega)]
    by_cases q : 1 < Rz 768 57 Dm r
    · rw [if_neg (by omega), if_pos q]
    · rw [if_pos (by omega), if_neg q, rdA_R (by omega), e56]
      congr 1
      funext v D3
      rw [wrA_T (by omega)]
  by_cases q : 1 < Rz 768 57 Dm r
  · obtain ⟨Dc2, y1, y2, y3⟩ := h.count (b := -1) hr h1 (by omega)
    have ee : Dc2 = Dc1 := by
      have := y1.symm.trans k1
      simp only [okR, Option.some.injEq, Prod.mk.injEq] at this
      exact this.2
    subst ee
    refine ⟨Dc2, Dm1, sec (Rz 768 56 Dm r) 2, 0, by rw [cl1, if_pos q], by rw [ml1, if_pos q], ?_, fun b hb => k2.1 b (nin hb (by decide)) (nin hb (by decide)), k2.2.1, k2.2.2, mb1, fun b hb => mfr b (nsub hb (by decide)), fun j _ => by rw [mfr 32 (by decide)], hi1, by rw [mfr 32 (by decide), Int.add_zero], e57⟩
    have e1 : Rz 768 56 Dm1 = Rz 768 56 Dm := funext e56
    have e2 : Rz 768 57 Dm1 = uI (Rz 768 57 Dm) r (Rz 768 57 Dm r + -1) := by
      funext i
      rw [e57]
      rfl
    rw [e1, e2]
    exact y3.eqv rfl rfl rfl rfl rfl (fun b x y => mfr b (by simp only [List.mem_cons, List.not_mem_nil, or_false]; omega))
  · have h57 : Rz 768 57 Dm r = 1 := by omega
    have hC1 : CR (Tz 256 6 Dc1 r 0) Dm1 := h.1.cong (fun u => by rw [R_T_ot (by decide), k2.sz]) (by rw [T_ot (by decide), k2.1 2 (by decide) (by decide)]) (fun u _ _ => R_cg (mfr 33 (by decide)) u) (by rw [mfr 34 (by decide)])
    obtain ⟨Dc2, Dm2, w1, w2, w3, w4, w5, w6, w7, w8, w9, w10, w11, w12, w13⟩ := give_both (p := Rz 768 56 Dm r) (n := 2) hC1 (by rw [R_T_ot (by decide), k2.sz, f4]) (by decide)
    refine ⟨Dc2, Tz 768 56 Dm2 r (-1), sec (Rz 768 56 Dm r) 2, 2, by rw [cl1, if_neg q, w1, bnd_ok], by rw [ml1, if_neg q, w2, bnd_ok], ?_, fun b hb => ?_, fun j hj => ?_, fun s x y => ?_, fun s x y => ?_, fun b hb => ?_, fun j hj => ?_, ?_, ?_, fun i => ?_⟩
    · refine h.rig (r := r) (w3.cong (fun _ => rfl) rfl (fun u _ _ => R_T_ot (by decide)) (by rw [T_ot (by decide)])) ?_ ?_ (fun i e => ?_) (fun b x y => ?_) (fun i _ _ e => ⟨?_, ?_⟩) ?_ (fun a i p s m e => ?_) (fun z => ?_)
      · rw [w4 2 (by decide), T_ot (by decide), T_ot (by decide), w6 35 (by decide), mfr 35 (by decide), k2.1 2 (by decide) (by decide)]
        exact h.2.1
      · rw [w4 5 (by decide), T_ot (by decide), k2.1 5 (by decide) (by decide)]
      · rw [R_cg (w4 6 (by decide)), R_T_ne e, R_cg (k2.1 6 (by decide) (by decide))]
      · rw [T_ot (by omega), w6 b (by simp only [List.mem_cons, List.not_mem_nil, or_false]; omega), mfr b (by simp only [List.mem_cons, List.not_mem_nil, or_false]; omega)]
      · rw [R_T_ne e, R_cg (w6 56 (by decide)), e56]
      · rw [R_T_ot (by decide), R_cg (w6 57 (by decide)), e57, if_neg e]
      · have e0 : Rz 768 57 (Tz 768 56 Dm2 r (-1)) r = 0 := by
          rw [R_T_ot (by decide), R_cg (w6 57 (by decide)), e57, if_pos rfl]; omega
        unfold RR
        rw [e0]
        exact ⟨fun _ => by rw [R_cg (w4 6 (by decide)), R_T_eq (by omega)], fun z => by omega⟩
      · have hd := h.dis m l e
        have hlb := h.lb m
        refine ⟨?_, fun j x y => ?_⟩
        · rw [w10 p (h.ne m l e) (by rw [R_T_ot (by decide), k2.sz]; omega), R_T_ot (by decide), k2.sz]
        · rw [R_cg (w4 4 (by decide)), R_T_ot (by decide), k3, if_neg (by omega)]
      · rw [R_T_ot (by decide), R_cg (w6 57 (by decide)), e57, if_pos rfl] at z
        omega
    · rw [w4 b (nsub hb (by decide)), T_ot (nin hb (by decide)), k2.1 b (nin hb (by decide)) (nin hb (by decide))]
    · rw [w5 j hj, T_ot (by decide), k2.2.1 j hj]
    · rw [w11 s x y, T_ot (by decide), k2.2.2 s x y]
      constructor
      · rintro ((z | z) | z)
        · exact Or.inl z
        · exact Or.inr z
        · exact Or.inr z
      · rintro (z | z)
        · exact Or.inl (Or.inl z)
        · exact Or.inr z
    · rw [R_T_ot (by decide), w12 s x y, mb1 s x y]
      constructor
      · rintro ((z | z) | z)
        · exact Or.inl z
        · exact Or.inr z
        · exact Or.inr z
      · rintro (z | z)
        · exact Or.inl (Or.inl z)
        · exact Or.inr z
    · rw [T_ot (nin hb (by decide)), w6 b (nsub hb (by decide)), mfr b (nsub hb (by decide))]
    · rw [T_ot (by decide), w7 j hj, mfr 32 (by decide)]
    · exact (hi1.trans w9).trans (HiEq.T (n := 768) (a := 56) (m := 256) (by decide) (by omega))
    · rw [T_ot (by decide), w8, mfr 32 (by decide)]
    · rw [R_T_ot (by decide), R_cg (w6 57 (by decide)), e57]
end RIGHTS
