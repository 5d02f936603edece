/-! class and reference take, get all, and give, side by side -/
def lenA (a : Nat) : Nat := if a = 33 then 1024 else if a = 34 ∨ a = 35 then 1 else if 36 ≤ a ∧ a ≤ 43 then 80 else if a = 44 ∨ a = 45 then 640 else if a = 46 ∨ a = 47 then 2560 else if 48 ≤ a ∧ a ≤ 50 then 80 else if 51 ≤ a ∧ a ≤ 54 then 640 else if a = 55 then 2560 else if a = 56 ∨ a = 57 then 256 else 1000000
/-- the registries behind the first stay as they are -/
def HiEq (D D' : DD) : Prop := ∀ a k, 33 ≤ a → a ≤ 57 → lenA a ≤ k → D' a k = D a k
theorem HiEq.rf (D : DD) : HiEq D D := fun _ _ _ _ _ => rfl
theorem HiEq.trans {D D1 D2 : DD} (h : HiEq D D1) (g : HiEq D1 D2) : HiEq D D2 := fun a k h1 h2 hk => (g a k h1 h2 hk).trans (h a k h1 h2 hk)
theorem HiEq.T {n a m : Nat} {D : DD} {i v : Int} (hm : lenA a = m) (h : i < m) : HiEq D (Tz n a D i v) := fun b k _ _ hk => by
  unfold Tz
  split
  · by_cases g : b = a
    · subst g
      rw [up2_nk (by omega)]
    · rw [up2_ot g]
  · rfl
theorem HiEq.up {a k m : Nat} {D : DD} {v : Int} (hm : lenA a = m) (h : k < m) : HiEq D (up2 D a k v) := fun b j _ _ hj => by
  by_cases g : b = a
  · subst g
    rw [up2_nk (by omega)]
  · rw [up2_ot g]
theorem HiEq.ot {D D' : DD} (h : ∀ b, 33 ≤ b → b ≤ 57 → D' b = D b) : HiEq D D' := fun a k h1 h2 _ => by rw [h a h1 h2]
def Fc (D D' : DD) : Prop := (∀ b, b ≠ 2 → b ≠ 3 → D' b = D b) ∧ D' 2 5 = D 2 5
def Fm (D D' : DD) : Prop := (∀ b, b ≠ 33 → b ≠ 34 → D' b = D b) ∧ HiEq D D'
theorem Fc.trans {D D1 D2 : DD} (h : Fc D D1) (g : Fc D1 D2) : Fc D D2 := ⟨fun b h1 h2 => (g.1 b h1 h2).trans (h.1 b h1 h2), g.2.trans h.2⟩
theorem Fm.trans {D D1 D2 : DD} (h : Fm D D1) (g : Fm D1 D2) : Fm D D2 := ⟨fun b h1 h2 => (g.1 b h1 h2).trans (h.1 b h1 h2), h.2.trans g.2⟩
/-- used cells stay -/
def Us (D D' : DD) : Prop := ∀ u, 0 < Rz 1024 3 D u → Rz 1024 3 D' u = Rz 1024 3 D u
theorem Us.trans {D D1 D2 : DD} (h : Us D D1) (g : Us D1 D2) : Us D D2 := fun u hu => by rw [g u (by rw [h u hu]; exact hu), h u hu]
theorem Til.in {s : Int → Int} {e u : Int} (h : Til s e) (hu : s u ≠ 0) (he : e ≤ 1024) : 4 ≤ u ∧ u < 1024 := by
  have := h.1 u hu
  omega
theorem grow_both {Dc Dm : DD} (h : CR Dc Dm) (hlt : Dc 2 4 < 64) : ∃ Dc' Dm', pC_addSector Dc = okR 0 Dc' ∧ pM_grows Dm = okR 0 Dm' ∧ CR Dc' Dm' ∧ Fc Dc Dc' ∧ Fm Dm Dm' ∧ Dc' 2 4 = Dc 2 4 + 1 ∧ Us Dc Dc' ∧ (∀ u, 0 < Rz 1024 3 Dc' u → Rz 1024 3 Dc' u = Rz 1024 3 Dc u) := by
  obtain ⟨hT, hsc, hm, hs⟩ := id h
  obtain ⟨v, r, h1, h2, h3, h4, h5⟩ := ah_both (Dc := Dc) (Dm := Dm) (s := Rz 1024 3 Dc) (e := 16 * Dc 2 4) (p := 16 * Dc 2 4) (by omega) hT (fun _ _ => rfl) (fun k a b => hs k a (by omega)) (by omega) (by omega) (Or.inl rfl)
  have hgr := hT.grow (by omega) h3
  have hwv : w32 (Rz 1024 3 Dc v) = Rz 1024 3 Dc v := w32_of (by have := hT.bd (by omega) v; omega)
  have fin : ∀ (b x : Int), 0 ≤ b → b < 1024 → uI (Rz 1024 3 Dc) b x = grw (Rz 1024 3 Dc) (16 * Dc 2 4) r → Rz 1024 3 Dc b ≤ 0 → x < 0 →
      CR (up2 (Tz 1024 3 Dc b x) 2 4 (Dc 2 4 + 1)) (Tz 3072 33 (up2 Dm 34 0 (Dm 34 0 + 1)) b x) ∧ Fc Dc (up2 (Tz 1024 3 Dc b x) 2 4 (Dc 2 4 + 1)) ∧ Fm Dm (Tz 3072 33 (up2 Dm 34 0 (Dm 34 0 + 1)) b x) ∧ Us Dc (up2 (Tz 1024 3 Dc b x) 2 4 (Dc 2 4 + 1)) ∧ (∀ u, 0 < Rz 1024 3 (up2 (Tz 1024 3 Dc b x) 2 4 (Dc 2 4 + 1)) u → Rz 1024 3 (up2 (Tz 1024 3 Dc b x) 2 4 (Dc 2 4 + 1)) u = Rz 1024 3 Dc u) := by
    intro b x hb0 hb1 hf hbn hx
    have e1 : Rz 1024 3 (up2 (Tz 1024 3 Dc b x) 2 4 (Dc 2 4 + 1)) = grw (Rz 1024 3 Dc) (16 * Dc 2 4) r := by
      rw [← hf, ← R_uI ⟨hb0, hb1⟩]
      funext u
      exact R_up2_ot (by decide)
    have e1' : ∀ u, Rz 1024 3 (up2 (Tz 1024 3 Dc b x) 2 4 (Dc 2 4 + 1)) u = uI (Rz 1024 3 Dc) b x u := fun u => by rw [e1, hf]
    refine ⟨⟨?_, ?_, ?_, fun k a c => ?_⟩, ⟨fun c c2 c3 => ?_, ?_⟩, ⟨fun c c2 c3 => ?_, ?_⟩, fun u hu => ?_, fun u hu => ?_⟩
    · rw [e1, up2_eq, show 16 * (Dc 2 4 + 1) = 16 * Dc 2 4 + 16 by omega]
      exact hgr
    · rw [up2_eq]; omega
    · rw [T_ot (by decide), up2_eq, up2_eq, hm]
    · rw [e1', R_uI ⟨hb0, by omega⟩]
      unfold uI
      split
      · rfl
      · rw [R_up2_ot (by decide)]; exact hs k a c
    · rw [up2_ot c2, T_ot c3]
    · rw [up2_nk (by decide), T_ot (by decide)]
    · rw [T_ot c2, up2_ot c3]
    · exact (HiEq.up (m := 1) rfl (by decide)).trans (HiEq.T (m := 1024) rfl (by omega))
    · rw [e1', uI_ne (fun q => by rw [q] at hu; omega)]
    · rw [e1'] at hu ⊢
      by_cases q : u = b
      · rw [q, uI_eq] at hu; omega
      · rw [uI_ne q]
  unfold pC_addSector pM_grows pI_end pM_units
  simp only [ltR, jnR, gD]
  rw [Int.mul_comm (Dc 2 4) 16, h1, hm, h2]
  simp only [bnd_ok]
  rw [rd_R (by omega), hwv]
  rcases h3 with ⟨r1, r2⟩ | ⟨r1, r2, r3, r4⟩
  · have hv : ¬ Rz 1024 3 Dc v < 0 := by
      rcases h5 with ⟨-, q⟩ | ⟨q, -⟩
      · omega
      · omega
    have hz : Rz 1024 3 Dc (16 * Dc 2 4) = 0 := hT.zero (Or.inr (Int.le_refl _))
    rw [if_neg hv, r1, if_pos w32_m1, wrA_T ⟨by omega, by omega, by decide⟩, sto_T (by omega), show 16 * Dc 2 4 - 16 * Dc 2 4 - 16 = -16 by omega]
    obtain ⟨f1, f2, f3, f4, f5⟩ := fin (16 * Dc 2 4) (-16) (by omega) (by omega) (by unfold grw; rw [if_pos r1]) (by omega) (by omega)
    rw [T_ot (by decide), ← hm] at *
    exact ⟨_, _, rfl, rfl, f1, f2, f3, up2_eq _ _ _ _, f4, f5⟩
  · have hvr : Rz 1024 3 Dc v < 0 ∧ v = r := by
      rcases h5 with q | ⟨-, q⟩
      · exact q
      · omega
    rw [if_pos hvr.1, hvr.2, w32_of (z := r) (by omega), if_neg (by omega), rdA_R ⟨by omega, by omega, by decide⟩, wrA_T ⟨by omega, by omega, by decide⟩, sto_T (by omega), R_up2_ot (by decide), hs r (by omega) (by omega), show r - 16 * Dc 2 4 - 16 = Rz 1024 3 Dc r - 16 by omega]
    obtain ⟨f1, f2, f3, f4, f5⟩ := fin r (Rz 1024 3 Dc r - 16) (by omega) (by omega) (by unfold grw; rw [if_neg (by omega)]) (by omega) (by omega)
    rw [T_ot (by decide), ← hm] at *
    exact ⟨_, _, rfl, rfl, f1, f2, f3, up2_eq _ _ _ _, f4, f5⟩
