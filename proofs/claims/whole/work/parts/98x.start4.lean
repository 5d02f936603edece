/-! the law's loop can begin -/
section INI
variable {D2 : DD}
theorem Mi.hi (h : Mi D2) {n a : Nat} (ha : 57 < a) (i : Int) : Rz n a D2 i = 0 := by
  unfold Rz
  rw [h.2.1 a ha]
  split <;> rfl
theorem Mi.z (h : Mi D2) {n a : Nat} (ha : a < 33) (hz : ∀ k, CP a k = 0) (i : Int) : Rz n a D2 i = 0 := by
  unfold Rz
  rw [h.c ha, hz]
  split <;> rfl
theorem Mi.dy (h : Mi D2) : Dy D2 D2 := fun t h0 h1 => by
  have e : D2 7 5 = 0 := by rw [h.c (by decide)]; exact CP_2.2.2.1
  rw [e, h.hi (by decide)]
  constructor
  · intro q
    have : bit 0 t = false := by
      obtain ⟨n, rfl⟩ : ∃ n : Nat, t = n := ⟨t.toNat, by omega⟩
      have : ∀ n : Nat, n < 64 → bit 0 (n : Int) = false := by decide +kernel
      exact this n (by omega)
    rw [this] at q
    cases q
  · intro q
    exact absurd w32_k0 q
theorem Mi.wt (h : Mi D2) : Wt D2 D2 0 := by
  have z16 := fun i => h.z (n := 80) (a := 16) (by decide) (fun k => (CP_w k).1) i
  have z17 := fun i => h.z (n := 80) (a := 17) (by decide) (fun k => (CP_w k).2.1) i
  have z18 := fun i => h.z (n := 80) (a := 18) (by decide) (fun k => (CP_w k).2.2.1) i
  have z19 := fun i => h.z (n := 80) (a := 19) (by decide) (fun k => (CP_w k).2.2.2.1) i
  have e15 : D2 15 4 = 0 := by rw [h.c (by decide)]; exact CP_2.2.2.2.1
  have e32 : D2 32 29 = 0 := by rw [h.c (by decide)]; exact CP_hi 32 (by decide) 29
  refine ⟨fun k h0 h1 => ?_, by omega, ⟨by omega, ?_⟩, fun i p q => by omega, fun i j p q r => by omega, fun k p q t => absurd (z19 k) t⟩
  · rw [h.hi (a := 59) (by decide), h.hi (a := 60) (by decide), h.hi (a := 61) (by decide), z16, z17, z18, z19, e15]
    exact ⟨⟨rfl, by decide, by decide⟩, ⟨rfl, Or.inl rfl⟩, Or.inl ⟨rfl, rfl, rfl⟩, by decide, by decide⟩
  · rw [e32, sm_cong (g := fun _ => 0) (fun k x y => ?_)]
    · decide +kernel
    · show (if Rz 80 19 D2 k = 0 then (0 : Int) else 1) = 0
      exact if_pos (z19 k)
theorem Mi.fl (h : Mi D2) : Fl D2 D2 0 := by
  have e2 : ∀ k, D2 32 k = 0 := fun k => by rw [h.c (by decide)]; exact CP_hi 32 (by decide) k
  obtain ⟨q1, q2, -, -, q5, q6, q7, q8⟩ := CP_2
  have e206 : D2 20 6 = 0 := by rw [h.c (by decide)]; exact q8
  have e205 : D2 20 5 = 0 := by rw [h.c (by decide)]; exact q7
  refine ⟨⟨by rw [e206, e2], Or.inl (e2 32)⟩, ⟨by rw [e205, e2], by rw [e2]; decide, by rw [e2]; decide⟩, fun i a b => ?_, ?_, fun z => ?_⟩
  · rw [h.hi (a := 64) (by decide), h.z (a := 31) (by decide) (fun k => (CP_w k).2.2.2.2)]
  · refine h.tr.pre ?_ ?_ (fun i => ?_) (fun i => ?_) (fun i => ?_) (fun i => ?_) (fun a k h1 h2 h3 => h.w2 h1 h2 h3)
    · show D2 21 4 = D2 2 4
      rw [h.c (by decide), h.c (by decide), q5, q1]
    · show D2 21 5 = D2 2 5
      rw [h.c (by decide), h.c (by decide), q6, q2]
    · show Rz 1024 22 D2 i = Rz 1024 3 D2 i
      unfold Rz
      split
      · rw [h.c (by decide), h.c (by decide), CP_22 (by omega)]
      · rfl
    · show Rz 1024 23 D2 i = Rz 1024 4 D2 i
      unfold Rz
      split
      · rw [h.c (by decide), h.c (by decide), CP_23 (by omega)]
      · rfl
    · show Rz 80 24 D2 i = Rz 80 5 D2 i
      unfold Rz
      split
      · rw [h.c (by decide), h.c (by decide), CP_24 (by omega)]
      · rfl
    · show Rz 256 25 D2 i = Rz 256 6 D2 i
      unfold Rz
      split
      · rw [h.c (by decide), h.c (by decide), CP_25 (by omega)]
      · rfl
  · rw [e2] at z
    cases z
theorem Mi.lw (h : Mi D2) : Lw D2 0 0 := ⟨⟨h.tr, h.dy, h.wt, by decide⟩, h.fl⟩
end INI
/-- what the law's start asks -/
theorem start_ok {X : Nat → Int32} {L : Nat} (hL : L ≤ 2560) : WP none 0 (fun o D1 => o = .inl none ∧ W2 X L (fun o _ => o = .inl (some (0, 1))) D1) (pH_ini (img (img (img Dz 2) 21) 26)) := by
  refine ⟨.inl 0, CP, e_ini, Nat.le_refl _, rfl, CP_hi, ?_⟩
  obtain ⟨D2, h1, h2⟩ := e_mini
  refine ⟨.inl 0, D2, h1, Nat.le_refl _, rfl, fun a ha k => h2.2.1 a (by omega) k, ?_⟩
  obtain ⟨D3, h3⟩ := law_loop (X := X) hL 513 0 D2 0 0 h2.lw (by decide) (by omega) (by omega) (by decide) (by decide)
  exact ⟨.inl 1, D3, h3, Nat.le_refl _, rfl⟩
