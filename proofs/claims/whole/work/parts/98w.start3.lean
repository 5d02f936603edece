/-! the first state is related -/
section INI
variable {D2 : DD}
theorem Mi.c (h : Mi D2) {b : Nat} (hb : b < 33) : D2 b = CP b := h.1 b hb
theorem Mi.m (h : Mi D2) {a k : Nat} (h1 : 33 ≤ a) (h2 : a ≤ 55) (h3 : k < lenA a) : D2 a k = M11 a k := by
  obtain ⟨-, -, D14, q1, -, -, q4⟩ := h
  rw [q4 a k h1 (by omega), if_neg (by omega), q1 a h1 h2]
theorem Mi.m56 (h : Mi D2) : D2 56 0 = 10 := by
  obtain ⟨-, -, D14, q1, q2, q3, q4⟩ := h
  rw [q4 56 0 (by decide) (by decide), if_neg (by decide)]
  exact q2
theorem Mi.m57 (h : Mi D2) {k : Nat} (hk : k < 256) : D2 57 k = if k = 0 then 1 else 0 := by
  obtain ⟨-, -, D14, q1, q2, q3, q4⟩ := h
  rw [q4 57 k (by decide) (by decide), if_neg (by rw [show lenA 57 = 256 from rfl]; omega)]
  exact q3 k
theorem Mi.w2 (h : Mi D2) {a k : Nat} (h1 : 33 ≤ a) (h2 : a ≤ 57) (h3 : k < lenA a) : mI 2 D2 a k = D2 a k := by
  rw [mI_at h3]
  obtain ⟨-, -, D14, q1, q2, q3, q4⟩ := h
  rw [q4 a _ h1 h2, q4 a k h1 h2, if_pos (by omega), if_neg (by omega)]
  congr 1
  omega
def s0 (u : Int) : Int := if u = 4 then 6 else if u = 10 then 2 else if u = 12 then -4 else 0
theorem s0_case (u : Int) : (u = 4 ∧ s0 u = 6) ∨ (u = 10 ∧ s0 u = 2) ∨ (u = 12 ∧ s0 u = -4) ∨ (u ≠ 4 ∧ u ≠ 10 ∧ u ≠ 12 ∧ s0 u = 0) := by
  unfold s0
  by_cases h1 : u = 4
  · exact Or.inl ⟨h1, if_pos h1⟩
  · rw [if_neg h1]
    by_cases h2 : u = 10
    · exact Or.inr (Or.inl ⟨h2, if_pos h2⟩)
    · rw [if_neg h2]
      by_cases h3 : u = 12
      · exact Or.inr (Or.inr (Or.inl ⟨h3, if_pos h3⟩))
      · exact Or.inr (Or.inr (Or.inr ⟨h1, h2, h3, if_neg h3⟩))
theorem s0_til : Til s0 16 := by
  refine ⟨fun u h => ?_, fun u v h h1 h2 => ?_, by decide, fun u h h1 => ?_, fun u h h1 => ?_⟩
  · have := s0_case u; omega
  · have := s0_case u; have := s0_case v; omega
  · have q := s0_case u; have := s0_case (u + s0 u); omega
  · have q := s0_case u; have := s0_case (u - s0 u); omega
theorem Mi.r3 (h : Mi D2) (u : Int) : Rz 1024 3 D2 u = s0 u := by
  unfold Rz
  by_cases g : 0 ≤ u ∧ u < (1024 : Nat)
  · rw [if_pos g, h.c (by decide), CP_3]
    unfold s0
    have e4 : u.toNat = 4 ↔ u = 4 := by omega
    have e10 : u.toNat = 10 ↔ u = 10 := by omega
    have e12 : u.toNat = 12 ↔ u = 12 := by omega
    simp only [e4, e10, e12]
  · rw [if_neg g]
    have := s0_case u
    omega
theorem M11_33 (k : Nat) : M11 33 k = if k = 4 then 6 else if k = 10 then 2 else if k = 12 then -4 else 0 := by
  have e : M11 33 k = if k = 12 then -4 else if k = 10 then 2 else if k = 4 then 6 else CP 33 k := rfl
  rw [e, CP_hi 33 (by decide)]
  by_cases h1 : k = 4
  · subst h1; rfl
  · rw [if_neg h1, if_neg h1]
    by_cases h2 : k = 10
    · subst h2; rfl
    · rw [if_neg h2, if_neg h2]
theorem Mi.r33 (h : Mi D2) {k : Int} (h0 : 0 ≤ k) (h1 : k < 1024) : Rz 3072 33 D2 k = s0 k := by
  unfold Rz
  rw [if_pos ⟨h0, by omega⟩, h.m (by decide) (by decide) (by rw [show lenA 33 = 1024 from rfl]; omega), M11_33]
  unfold s0
  have e4 : k.toNat = 4 ↔ k = 4 := by omega
  have e10 : k.toNat = 10 ↔ k = 10 := by omega
  have e12 : k.toNat = 12 ↔ k = 12 := by omega
  simp only [e4, e10, e12]
theorem Mi.r240 (h : Mi D2) {a : Nat} (h1 : 33 ≤ a) (h2 : a ≤ 55) (hl : lenA a = 80) {k : Int} (q0 : 0 ≤ k) (q1 : k < 80) : Rz 240 a D2 k = M11 a k.toNat := by
  unfold Rz
  rw [if_pos ⟨q0, by omega⟩, h.m h1 h2 (by omega)]
theorem M11_0 : M11 34 0 = 1 ∧ M11 35 0 = 1 ∧ M11 37 0 = -1 ∧ M11 38 0 = 0 ∧ M11 39 0 = -1 ∧ M11 40 0 = 4 ∧ M11 41 0 = 0 ∧ M11 42 0 = 0 ∧ M11 43 0 = -1 ∧ M11 48 0 = 0 ∧ M11 49 0 = -1 :=
  ⟨rfl, rfl, rfl, CP_hi 38 (by decide) 0, rfl, rfl, CP_hi 41 (by decide) 0, CP_hi 42 (by decide) 0, rfl, CP_hi 48 (by decide) 0, rfl⟩
theorem Mi.r36 (h : Mi D2) {k : Int} (h0 : 0 ≤ k) (h1 : k < 80) : Rz 240 36 D2 k = if k = 0 then 1 else 0 := by
  rw [h.r240 (by decide) (by decide) rfl h0 h1, m_36]
  have e : k.toNat = 0 ↔ k = 0 := by omega
  simp only [e]
theorem Mi.only (h : Mi D2) {k : Int} (h0 : 0 ≤ k) (h1 : k < 80) (t : th D2 k) : k = 0 := by
  have t : Rz 240 36 D2 k = 1 := t
  rw [h.r36 h0 h1] at t
  split at t
  · assumption
  · cases t
theorem Mi.k0 (h : Mi D2) : Rz 240 36 D2 0 = 1 ∧ Rz 240 37 D2 0 = -1 ∧ Rz 240 38 D2 0 = 0 ∧ Rz 240 39 D2 0 = -1 ∧ Rz 240 40 D2 0 = 4 ∧ Rz 240 41 D2 0 = 0 ∧ Rz 240 42 D2 0 = 0 ∧ Rz 240 43 D2 0 = -1 ∧ Rz 240 48 D2 0 = 0 ∧ Rz 240 49 D2 0 = -1 := by
  obtain ⟨-, -, a3, a4, a5, a6, a7, a8, a9, a10, a11⟩ := M11_0
  refine ⟨?_, ?_, ?_, ?_, ?_, ?_, ?_, ?_, ?_, ?_⟩
  · exact h.r36 (by decide) (by decide)
  · exact (h.r240 (by decide) (by decide) rfl (by decide) (by decide)).trans a3
  · exact (h.r240 (by decide) (by decide) rfl (by decide) (by decide)).trans a4
  · exact (h.r240 (by decide) (by decide) rfl (by decide) (by decide)).trans a5
  · exact (h.r240 (by decide) (by decide) rfl (by decide) (by decide)).trans a6
  · exact (h.r240 (by decide) (by decide) rfl (by decide) (by decide)).trans a7
  · exact (h.r240 (by decide) (by decide) rfl (by decide) (by decide)).trans a8
  · exact (h.r240 (by decide) (by decide) rfl (by decide) (by decide)).trans a9
  · exact (h.r240 (by decide) (by decide) rfl (by decide) (by decide)).trans a10
  · exact (h.r240 (by decide) (by decide) rfl (by decide) (by decide)).trans a11
theorem Mi.u (h : Mi D2) : Rz 1024 4 D2 4 = 0 ∧ Rz 1024 4 D2 5 = -1 ∧ Rz 1024 4 D2 6 = 0 ∧ Rz 1024 4 D2 7 = 0 ∧ Rz 1024 4 D2 8 = 0 ∧ Rz 1024 4 D2 9 = -1 ∧ Rz 1024 4 D2 10 = 1 := by
  obtain ⟨a1, a2, a3, a4, a5, a6, a7⟩ := CP_4
  have e : ∀ k : Nat, k < 1024 → Rz 1024 4 D2 (k : Int) = CP 4 k := fun k hk => by rw [R_raw hk, h.c (by decide)]
  exact ⟨(e 4 (by decide)).trans a1, (e 5 (by decide)).trans a2, (e 6 (by decide)).trans a3, (e 7 (by decide)).trans a4, (e 8 (by decide)).trans a5, (e 9 (by decide)).trans a6, (e 10 (by decide)).trans a7⟩
theorem Mi.r5 (h : Mi D2) {k : Int} (h0 : 0 ≤ k) (h1 : k < 80) : Rz 80 5 D2 k = if k = 0 then 4 else 0 := by
  unfold Rz
  rw [if_pos ⟨h0, by omega⟩, h.c (by decide), CP_5]
  have e : k.toNat = 0 ↔ k = 0 := by omega
  simp only [e]
theorem Mi.r6 (h : Mi D2) {k : Int} (h0 : 0 ≤ k) (h1 : k < 256) : Rz 256 6 D2 k = if k = 0 then 10 else 0 := by
  unfold Rz
  rw [if_pos ⟨h0, by omega⟩, h.c (by decide), CP_6]
  have e : k.toNat = 0 ↔ k = 0 := by omega
  simp only [e]
theorem Mi.r57 (h : Mi D2) {k : Int} (h0 : 0 ≤ k) (h1 : k < 256) : Rz 768 57 D2 k = if k = 0 then 1 else 0 := by
  unfold Rz
  rw [if_pos ⟨h0, by omega⟩, h.m57 (by omega)]
  have e : k.toNat = 0 ↔ k = 0 := by omega
  simp only [e]
theorem Mi.r56 (h : Mi D2) : Rz 768 56 D2 0 = 10 := h.m56
theorem Mi.lb (h : Mi D2) {a : Nat} {i p s : Int} (l : Lb (th D2) (Rz 768 56 D2) (Rz 768 57 D2) D2 a i p s) : (a = 40 ∧ i = 0 ∧ p = 4) ∨ (a = 56 ∧ i = 0 ∧ p = 10) := by
  obtain ⟨b1, b2, b3, b4, b5, b6, b7, b8, b9, b10⟩ := h.k0
  rcases l with ⟨k, l1, l2, l3, l4⟩ | ⟨l1, l2, l3, l4, l5, l6⟩
  · have := h.only l1 l2 l3
    subst this
    rcases l4 with ⟨q1, q2, q3, q4⟩ | ⟨q1, q2, q3, q4, q5⟩ | ⟨q1, j, q2, q3, -⟩ | ⟨q1, q2, q3, -⟩ | ⟨q1, j, q2, q3, -⟩ | ⟨q1, j, m, q2, q3, -⟩
    · exact Or.inl ⟨q1, q2, q3.trans b5⟩
    · rw [b7] at q3; omega
    · rw [b7] at q3; omega
    · rw [b9] at q3; omega
    · rw [b9] at q3; omega
    · rw [b9] at q3; omega
  · rw [h.r57 l2 l3] at l4
    by_cases g : i = 0
    · subst g
      exact Or.inr ⟨l1, rfl, l5.trans h.r56⟩
    · rw [if_neg g] at l4
      omega
theorem Mi.tr (h : Mi D2) : Tr D2 D2 := by
  obtain ⟨b1, b2, b3, b4, b5, b6, b7, b8, b9, b10⟩ := h.k0
  obtain ⟨c1, c2, -, -, -, -, -, -⟩ := CP_2
  have e34 : D2 34 0 = 1 := (h.m (by decide) (by decide) (by decide)).trans M11_0.1
  have e35 : D2 35 0 = 1 := (h.m (by decide) (by decide) (by decide)).trans M11_0.2.1
  have e24 : D2 2 4 = 1 := by rw [h.c (by decide)]; exact c1
  have e25 : D2 2 5 = 1 := by rw [h.c (by decide)]; exact c2
  have fs : Rz 1024 3 D2 = s0 := funext h.r3
  obtain ⟨u4, u5, u6, u7, u8, u9, u10⟩ := h.u
  have hMW : MW D2 0 := by
    have e0 : sm (mc D2 0) 0 = 0 := rfl
    refine ⟨by rw [b7]; decide, fun i p q => by rw [b7] at q; omega, fun j p q => by rw [b7, e0] at q; omega, fun j j' p q r => by rw [b7, e0] at r; omega⟩
  refine ⟨⟨⟨?_, ⟨by omega, by omega⟩, by omega, fun k p q => ?_⟩, by omega, fun k p q t => ?_, fun k p q t => ?_, fun r p q => ⟨fun t => ?_, fun t => ?_⟩, fun a i p s b j t l l' => ?_⟩, ⟨⟨by omega, by omega⟩, fun k p q => ?_, ⟨b1, b2, b4⟩, fun k p q t => ?_, fun k j p q t v w => ?_, fun r p q => ?_⟩⟩
  · rw [fs, e24]
    exact s0_til
  · rw [h.r33 p q, h.r3]
  · rw [h.r5 p q]
    refine if_neg (fun g => t ?_)
    subst g
    exact b1
  · have := h.only p q t
    subst this
    refine ⟨?_, ?_, ⟨?_, ?_, ?_, ?_⟩, ⟨by omega, by omega, Or.inl b4, fun _ => b10⟩, ?_, hMW, ?_⟩
    · rw [h.r5 p q, b5]; rfl
    · rw [b5, h.r3]; rfl
    · rw [b5, b3]; exact u4
    · rw [b5, b2]; exact u5
    · rw [b5, b6]; exact u8
    · rw [b5, b4]; exact u9
    · rw [b5, b7]
      refine ⟨by decide, ?_, fun i x y => by omega, fun x => by omega⟩
      rw [if_pos rfl]
      exact u6
    · rw [b5, b9]
      refine ⟨by decide, ?_, fun x => by omega, fun j x y => by omega, fun j j' x y z => by omega⟩
      rw [if_pos rfl]
      exact u7
  · rw [h.r57 p q] at t
    rw [h.r6 p q]
    by_cases g : r = 0
    · rw [if_pos g] at t; cases t
    · rw [if_neg g]
  · rw [h.r57 p q] at t
    by_cases g : r = 0
    · subst g
      rw [h.r6 p q, h.r56, h.r3, h.r57 p q]
      exact ⟨rfl, rfl, u10⟩
    · rw [if_neg g] at t; omega
  · rcases h.lb l with ⟨x1, x2, x3⟩ | ⟨x1, x2, x3⟩ <;> rcases h.lb l' with ⟨y1, y2, y3⟩ | ⟨y1, y2, y3⟩
    · exact ⟨x1.trans y1.symm, x2.trans y2.symm⟩
    · omega
    · omega
    · exact ⟨x1.trans y1.symm, x2.trans y2.symm⟩
  · rw [h.r36 p q, e35]
    by_cases g : k = 0
    · subst g
      exact ⟨Or.inr rfl, fun _ => by decide⟩
    · rw [if_neg g]
      exact ⟨Or.inl rfl, fun z => by cases z⟩
  · have := h.only (by omega) q t
    omega
  · have := h.only p q t
    subst this
    rw [b7] at w
    have e0 : sm (mc D2 0) 0 = 0 := rfl
    omega
  · rw [h.r57 p q]
    by_cases g : r = 0
    · subst g
      rw [if_pos rfl, sm_cong (g := fun k => if k = 0 then 1 else 0) (fun k x y => ?_)]
      · decide +kernel
      · show (if Rz 240 36 D2 k = 1 ∧ Rz 240 41 D2 k = 0 then (1 : Int) else 0) = if k = 0 then 1 else 0
        by_cases z : k = 0
        · subst z
          rw [if_pos ⟨b1, b6⟩, if_pos rfl]
        · rw [if_neg (fun w => z (h.only x y w.1)), if_neg z]
    · rw [if_neg g, sm_cong (g := fun _ => 0) (fun k x y => ?_)]
      · decide +kernel
      · show (if Rz 240 36 D2 k = 1 ∧ Rz 240 41 D2 k = r then (1 : Int) else 0) = 0
        refine if_neg (fun w => g ?_)
        have := h.only x y w.1
        subst this
        exact w.2.symm.trans b6
end INI
