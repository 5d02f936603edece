/-! a new key -/
section NEWKEY
variable {T : Int → Prop} {R S : Int → Int} {Dc Dm Dm' : DD}
theorem enterKey_c {D : DD} {p nm pa ta ri K : Int} (hp : 4 ≤ p ∧ p + 6 ≤ 1024) (hK : D 2 5 = K) (hK0 : 0 ≤ K ∧ K < 80) : ∃ D', pI_putUnit (p + 4) ri (pH_enterKey p nm pa ta D) = D' ∧ (∀ b, b ∉ [2, 4, 5] → D' b = D b) ∧ (∀ k, k ≠ 5 → D' 2 k = D 2 k) ∧ D' 2 5 = K + 1 ∧ (∀ i, Rz 80 5 D' i = if i = K then p else Rz 80 5 D i) ∧
    (∀ u, Rz 1024 4 D' u = if u = p then nm else if u = p + 1 then pa else if u = p + 2 then 0 else if u = p + 3 then 0 else if u = p + 4 then ri else if u = p + 5 then ta else Rz 1024 4 D u) := by
  have e2 : ∀ {n a : Nat} {D : DD} {i v : Int}, a ≠ 2 → Tz n a D i v 2 = D 2 := fun h => T_ot (Ne.symm h)
  have main : pI_putUnit (p + 4) ri (pH_enterKey p nm pa ta D) = Tz 1024 4 (up2 (Tz 80 5 (Tz 1024 4 (Tz 1024 4 (Tz 1024 4 (Tz 1024 4 (Tz 1024 4 (Tz 1024 4 D p nm) (p + 1) pa) (p + 2) 0) (p + 3) 0) (p + 4) 0) (p + 5) ta) K p) 2 5 (K + 1)) (p + 4) ri := by
    unfold pI_putUnit pH_enterKey pI_setPlaceOfKey pI_putUnit
    simp only [gD]
    rw [Int.add_zero, sto_T (i := p) (by omega), sto_T (i := p + 1) (by omega), sto_T (i := p + 2) (by omega), sto_T (i := p + 3) (by omega), sto_T (i := p + 4) (v := 0) (by omega), sto_T (i := p + 5) (by omega)]
    have q : Tz 1024 4 (Tz 1024 4 (Tz 1024 4 (Tz 1024 4 (Tz 1024 4 (Tz 1024 4 D p nm) (p + 1) pa) (p + 2) 0) (p + 3) 0) (p + 4) 0) (p + 5) ta 2 5 = K := by
      rw [e2 (by decide), e2 (by decide), e2 (by decide), e2 (by decide), e2 (by decide), e2 (by decide), hK]
    rw [q, sto_T (i := K) (by omega), sto_T (i := p + 4) (by omega)]
    have q2 : ∀ E : DD, E 2 5 = K → (Tz 80 5 E K p) 2 5 + 1 = K + 1 := fun E z => by rw [e2 (by decide), z]
    rw [q2 _ q]
  refine ⟨_, main, fun b hb => ?_, fun k hk => ?_, ?_, fun i => ?_, fun u => ?_⟩
  · have h2 := nin hb (show 2 ∈ [2, 4, 5] by decide)
    have h4 := nin hb (show 4 ∈ [2, 4, 5] by decide)
    have h5 := nin hb (show 5 ∈ [2, 4, 5] by decide)
    rw [T_ot h4, up2_ot h2, T_ot h5, T_ot h4, T_ot h4, T_ot h4, T_ot h4, T_ot h4, T_ot h4]
  · rw [e2 (by decide), up2_nk hk, e2 (by decide), e2 (by decide), e2 (by decide), e2 (by decide), e2 (by decide), e2 (by decide), e2 (by decide)]
  · rw [e2 (by decide), up2_eq]
  · rw [R_T_ot (by decide), R_up2_ot (by decide), R_T, R_T_ot (by decide), R_T_ot (by decide), R_T_ot (by decide), R_T_ot (by decide), R_T_ot (by decide), R_T_ot (by decide)]
    by_cases q : i = K
    · rw [if_pos ⟨by omega, q⟩, if_pos q]
    · rw [if_neg (fun z => q z.2), if_neg q]
  · rw [R_T, R_up2_ot (by decide), R_T_ot (by decide), R_T, R_T, R_T, R_T, R_T, R_T]
    by_cases q0 : u = p
    · rw [if_neg (by omega), if_neg (by omega), if_neg (by omega), if_neg (by omega), if_neg (by omega), if_neg (by omega), if_pos ⟨by omega, q0⟩, if_pos q0]
    · by_cases q1 : u = p + 1
      · rw [if_neg (by omega), if_neg (by omega), if_neg (by omega), if_neg (by omega), if_neg (by omega), if_pos ⟨by omega, q1⟩, if_neg q0, if_pos q1]
      · by_cases q2 : u = p + 2
        · rw [if_neg (by omega), if_neg (by omega), if_neg (by omega), if_neg (by omega), if_pos ⟨by omega, q2⟩, if_neg q0, if_neg q1, if_pos q2]
        · by_cases q3 : u = p + 3
          · rw [if_neg (by omega), if_neg (by omega), if_neg (by omega), if_pos ⟨by omega, q3⟩, if_neg q0, if_neg q1, if_neg q2, if_pos q3]
          · by_cases q4 : u = p + 4
            · rw [if_pos ⟨by omega, q4⟩, if_neg q0, if_neg q1, if_neg q2, if_neg q3, if_pos q4]
            · by_cases q5 : u = p + 5
              · rw [if_neg (by omega), if_pos ⟨by omega, q5⟩, if_neg q0, if_neg q1, if_neg q2, if_neg q3, if_neg q4, if_pos q5]
              · rw [if_neg (by omega), if_neg (by omega), if_neg (by omega), if_neg (by omega), if_neg (by omega), if_neg (by omega), if_neg (by omega), if_neg q0, if_neg q1, if_neg q2, if_neg q3, if_neg q4, if_neg q5]
theorem T0.newkey {p nm pa ta ri K : Int} (h : T0 T R S Dc Dm) (hK : Dm 35 0 = K) (hK0 : 0 ≤ K ∧ K < 80) (hT : ¬ T K) (hp : Fs T R S Dc Dm p 6) (hnm : 0 ≤ nm ∧ nm ≤ 9999) (hri : 0 ≤ ri ∧ ri ≤ 255) (hta : ta = -1 ∨ (0 ≤ ta ∧ ta < 80))
    (m33 : Dm' 33 = Dm 33) (m34 : Dm' 34 = Dm 34) (m35 : Dm' 35 0 = K + 1) (hM : ∀ k, 0 ≤ k → k < 80 → k ≠ K → MS Dm Dm' k) (m37 : Rz 240 37 Dm' K = pa) (m38 : Rz 240 38 Dm' K = nm) (m39 : Rz 240 39 Dm' K = ta) (m40 : Rz 240 40 Dm' K = p) (m41 : Rz 240 41 Dm' K = ri) (m42 : Rz 240 42 Dm' K = 0) (m48 : Rz 240 48 Dm' K = 0) (m49 : Rz 240 49 Dm' K = -1) :
    ∃ Dc', pI_putUnit (p + 4) ri (pH_enterKey p nm pa ta Dc) = Dc' ∧ (∀ b, b ∉ [2, 4, 5] → Dc' b = Dc b) ∧ (∀ k, k ≠ 5 → Dc' 2 k = Dc 2 k) ∧ T0 (fun k => T k ∨ k = K) R S Dc' Dm' ∧ (∀ q n, Fs T R S Dc Dm q n → q ≠ p → Fs (fun k => T k ∨ k = K) R S Dc' Dm' q n) := by
  have ht := h.1.1.1 p (by have := hp.1; omega)
  have hsc := h.1.2.1
  have hps := hp.1
  obtain ⟨Dc', k1, k2, k3, k4, k5, k6⟩ := enterKey_c (nm := nm) (pa := pa) (ta := ta) (ri := ri) (p := p) (by omega) (h.2.1.trans hK) hK0
  have s3 : ∀ u, Rz 1024 3 Dc' u = Rz 1024 3 Dc u := fun u => R_cg (k2 3 (by decide)) u
  have fr : ∀ a i q s, Lb T R S Dm a i q s → Fr Dc Dc' q s := fun a i q s l => ⟨s3 q, fun j b1 b2 => by
    have := hp.dis h l
    rw [k6, if_neg (by omega), if_neg (by omega), if_neg (by omega), if_neg (by omega), if_neg (by omega), if_neg (by omega)]⟩
  have uu : ∀ j, 0 ≤ j → j < 6 → Rz 1024 4 Dc' (p + j) = if j = 0 then nm else if j = 1 then pa else if j = 2 then 0 else if j = 3 then 0 else if j = 4 then ri else ta := fun j a b => by
    rw [k6]
    by_cases q0 : j = 0
    · rw [if_pos (by omega), if_pos q0]
    · by_cases q1 : j = 1
      · rw [if_neg (by omega), if_pos (by omega), if_neg q0, if_pos q1]
      · by_cases q2 : j = 2
        · rw [if_neg (by omega), if_neg (by omega), if_pos (by omega), if_neg q0, if_neg q1, if_pos q2]
        · by_cases q3 : j = 3
          · rw [if_neg (by omega), if_neg (by omega), if_neg (by omega), if_pos (by omega), if_neg q0, if_neg q1, if_neg q2, if_pos q3]
          · by_cases q4 : j = 4
            · rw [if_neg (by omega), if_neg (by omega), if_neg (by omega), if_neg (by omega), if_pos (by omega), if_neg q0, if_neg q1, if_neg q2, if_neg q3, if_pos q4]
            · rw [if_neg (by omega), if_neg (by omega), if_neg (by omega), if_neg (by omega), if_neg (by omega), if_pos (by omega), if_neg q0, if_neg q1, if_neg q2, if_neg q3, if_neg q4]
  have u0 : Rz 1024 4 Dc' p = nm := by have := uu 0 (by omega) (by omega); rw [Int.add_zero] at this; exact this
  have hKR : KR Dc' Dm' K := by
    unfold KR
    rw [m40, m37, m38, m39, m41, m42, m48, k5, if_pos rfl, s3, u0, uu 1 (by omega) (by omega), uu 2 (by omega) (by omega), uu 3 (by omega) (by omega), uu 4 (by omega) (by omega), uu 5 (by omega) (by omega)]
    refine ⟨rfl, hps, ⟨rfl, rfl, rfl, rfl⟩, ⟨hnm, hri, ?_, fun _ => m49⟩, ⟨by omega, rfl, fun i a b => by omega, fun q => by omega⟩, ⟨by omega, fun i a b => by omega, fun j a b => ?_, fun j j' a b c => ?_⟩, ⟨by omega, rfl, fun q => by omega, fun j a b => by omega, fun j j' a b c => by omega⟩⟩
    · rcases hta with z | z
      · exact Or.inl z
      · exact Or.inr ⟨z.1, z.2, rfl, rfl⟩
    · rw [m42, sm_0] at b
      omega
    · rw [m42, sm_0] at c
      omega
  have cls : ∀ a i q s, Lb (fun k => T k ∨ k = K) R S Dm' a i q s → Lb T R S Dm a i q s ∨ (a = 40 ∧ i = K ∧ q = p) := by
    intro a i q s l
    rcases l with ⟨k, l1, l2, l3, l4⟩ | l
    · by_cases e : k = K
      · subst e
        rcases l4 with ⟨z1, z2, z3, z4⟩ | ⟨z1, z2, z3, z4, z5⟩ | ⟨z1, j, z2, z3, z4, z5, z6⟩ | ⟨z1, z2, z3, z4, z5⟩ | ⟨z1, j, z2, z3, z4, z5, z6⟩ | ⟨z1, j, m, z2, z3, z4, z5, z6, z7, z8⟩
        · exact Or.inr ⟨z1, z2, by rw [z3, m40]⟩
        · omega
        · omega
        · omega
        · omega
        · omega
      · have l3 : T k := by
          rcases l3 with z | z
          · exact z
          · exact absurd z e
        have hkr := h.2.2.2.1 k l1 l2 l3
        exact Or.inl (Or.inl ⟨k, l1, l2, l3, LbK.cong (hM k l1 l2 e) hkr.2.2.2.2.1.1.2 hkr.2.2.2.2.2.2.1.2 (fun j a b => (hkr.2.2.2.2.2.2.2.2.2.1 j a b).2.1) l4⟩)
    · exact Or.inl (Or.inr l)
  refine ⟨Dc', k1, k2, k3, ⟨?_, ?_, fun k a b c => ?_, fun k a b c => ?_, fun r a b => ?_, ?_⟩, fun q n f g => ⟨by rw [s3]; exact f.1, f.2.1, fun a i s l => ?_⟩⟩
  · exact h.1.cong s3 (k3 4 (by decide)) (fun u _ _ => R_cg m33 u) (by rw [m34])
  · rw [k4, m35]
  · rw [k5, if_neg (fun z => c (Or.inr z))]
    exact h.2.2.1 k a b (fun z => c (Or.inl z))
  · by_cases e : k = K
    · subst e; exact hKR
    · have c : T k := by
        rcases c with z | z
        · exact z
        · exact absurd z e
      exact (h.2.2.2.1 k a b c).frame (by rw [k5, if_neg e]) (hM k a b e) (fun x i q s l => fr x i q s (Or.inl ⟨k, a, b, c, l⟩))
  · obtain ⟨f1, f2⟩ := h.2.2.2.2.1 r a b
    unfold RR
    rw [R_cg (k2 6 (by decide))]
    refine ⟨f1, fun q => ?_⟩
    obtain ⟨f3, f4, f5⟩ := f2 q
    obtain ⟨g1, g2⟩ := fr 56 r (R r) 2 (Or.inr ⟨rfl, a, b, q, rfl, rfl⟩)
    have := g2 0 (by omega) (by omega)
    rw [Int.add_zero] at this
    exact ⟨f3, by rw [g1, f4], by rw [this, f5]⟩
  · intro a i q s b j t l m
    rcases cls a i q s l with l | ⟨l1, l2, l3⟩ <;> rcases cls b j q t m with m | ⟨m1, m2, m3⟩
    · exact h.2.2.2.2.2 _ _ _ _ _ _ _ l m
    · subst m3
      exact absurd l (hp.2.2 _ _ _)
    · subst l3
      exact absurd m (hp.2.2 _ _ _)
    · exact ⟨by rw [l1, m1], by rw [l2, m2]⟩
  · rcases cls a i q s l with l | ⟨l1, l2, l3⟩
    · exact f.2.2 _ _ _ l
    · exact g l3
end NEWKEY
