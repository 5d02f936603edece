/-! the relation of the class and the reference -/
theorem VC.cong {un sz un' sz' : Int → Int} {hd n l z hd' l' z' : Int} {vn sd le vp vn' sd' le' vp' : Int → Int} {pc pc' : Int → Int → Int} (h : VC un sz hd n l z vn sd le vp pc) (hhd : hd' = hd) (hl : 1 ≤ n → l' = l ∧ z' = z)
    (hv : ∀ j, 0 ≤ j → j < n → vn' j = vn j ∧ sd' j = sd j ∧ le' j = le j ∧ vp' j = vp j) (hp : ∀ j i, 0 ≤ j → j < n → 0 ≤ i → i < pcs (le j) → pc' j i = pc j i)
    (hs : 1 ≤ n → sz' l = sz l) (hs2 : ∀ j, 0 ≤ j → j < n → sz' (vp j) = sz (vp j)) (hs3 : ∀ j i, 0 ≤ j → j < n → 0 ≤ i → i < pcs (le j) → sz' (pc j i) = sz (pc j i))
    (hu : 1 ≤ n → ∀ i, 0 ≤ i → i < n + 1 → un' (l + i) = un (l + i)) (hu2 : ∀ j i, 0 ≤ j → j < n → 0 ≤ i → i < 3 → un' (vp j + i) = un (vp j + i)) (hu3 : ∀ j i, 0 ≤ j → j < n → 0 ≤ i → i < pcs (le j) → un' (pc j i) = un (pc j i)) : VC un' sz' hd' n l' z' vn' sd' le' vp' pc' := by
  obtain ⟨h1, h2, h3, h4, h5⟩ := h
  refine ⟨h1, ?_, fun q => ?_, fun j a b => ?_, fun j j' a b c => ?_⟩
  · rw [hhd, h2]
    by_cases q : n = 0
    · rw [if_pos q, if_pos q]
    · rw [if_neg q, if_neg q, (hl (by omega)).1]
  · obtain ⟨a1, a2, a3, a4, a5⟩ := h3 q
    obtain ⟨e1, e2⟩ := hl q
    subst e1 e2
    refine ⟨a1, by rw [hs q, a2], ?_, a4, fun j a b => ?_⟩
    · have := hu q 0 (by omega) (by omega)
      rw [Int.add_zero] at this
      rw [this, a3]
    · have := hu q (1 + j) (by omega) (by omega)
      rw [← Int.add_assoc] at this
      rw [this, a5 j a b, (hv j a b).2.2.2]
  · obtain ⟨b1, b2, b3, b4, b5, b6, b7⟩ := h4 j a b
    obtain ⟨e1, e2, e3, e4⟩ := hv j a b
    have u0 := hu2 j 0 a b (by omega) (by omega)
    have u1 := hu2 j 1 a b (by omega) (by omega)
    have u2 := hu2 j 2 a b (by omega) (by omega)
    rw [Int.add_zero] at u0
    rw [e1, e2, e3, e4, u0, u1, u2, hs2 j a b]
    have hb := pcs_bd b2
    refine ⟨b1, b2, b3, b4, b5, ?_, fun i c d => ?_⟩
    · rw [b6]
      by_cases q : pcs (le j) = 0
      · rw [if_pos q, if_pos q]
      · rw [if_neg q, if_neg q, hp j 0 a b (by omega) (by omega)]
    · obtain ⟨c1, c2⟩ := b7 i c d
      rw [hp j i a b c d, hs3 j i a b c d, hu3 j i a b c d, c1, c2]
      refine ⟨rfl, ?_⟩
      by_cases q : i + 1 < pcs (le j)
      · rw [if_pos q, if_pos q, hp j (i + 1) a b (by omega) q]
      · rw [if_neg q, if_neg q]
  · rw [(hv j a (by omega)).1, (hv j' (by omega) c).1]
    exact h5 j j' a b c
/-- the cells of a key: array and index in the reference, place, size -/
def LbK (D : DD) (k : Int) (a : Nat) (i p s : Int) : Prop :=
  (a = 40 ∧ i = k ∧ p = Rz 240 40 D k ∧ s = 6) ∨ (a = 43 ∧ i = k ∧ 2 ≤ Rz 240 42 D k ∧ p = Rz 240 43 D k ∧ s = 9) ∨ (a = 44 ∧ ∃ j, 0 ≤ j ∧ j < Rz 240 42 D k ∧ i = 8 * k + j ∧ p = ml D k j ∧ s = 5) ∨
  (a = 49 ∧ i = k ∧ 1 ≤ Rz 240 48 D k ∧ p = Rz 240 49 D k ∧ s = Rz 240 50 D k) ∨ (a = 54 ∧ ∃ j, 0 ≤ j ∧ j < Rz 240 48 D k ∧ i = 8 * k + j ∧ p = vP D k j ∧ s = 3) ∨
  (a = 55 ∧ ∃ j m, 0 ≤ j ∧ j < Rz 240 48 D k ∧ 0 ≤ m ∧ m < pcs (vL D k j) ∧ i = 4 * (8 * k + j) + m ∧ p = vQ D k j m ∧ s = 2 + upc (vL D k j) m)
section LBK
variable {D : DD} {k : Int}
theorem LbK.key : LbK D k 40 k (Rz 240 40 D k) 6 := Or.inl ⟨rfl, rfl, rfl, rfl⟩
theorem LbK.idx (h : 2 ≤ Rz 240 42 D k) : LbK D k 43 k (Rz 240 43 D k) 9 := Or.inr (Or.inl ⟨rfl, rfl, h, rfl, rfl⟩)
theorem LbK.lea {j : Int} (h0 : 0 ≤ j) (h1 : j < Rz 240 42 D k) : LbK D k 44 (8 * k + j) (ml D k j) 5 := Or.inr (Or.inr (Or.inl ⟨rfl, j, h0, h1, rfl, rfl, rfl⟩))
theorem LbK.vls (h : 1 ≤ Rz 240 48 D k) : LbK D k 49 k (Rz 240 49 D k) (Rz 240 50 D k) := Or.inr (Or.inr (Or.inr (Or.inl ⟨rfl, rfl, h, rfl, rfl⟩)))
theorem LbK.val {j : Int} (h0 : 0 ≤ j) (h1 : j < Rz 240 48 D k) : LbK D k 54 (8 * k + j) (vP D k j) 3 := Or.inr (Or.inr (Or.inr (Or.inr (Or.inl ⟨rfl, j, h0, h1, rfl, rfl, rfl⟩))))
theorem LbK.pie {j m : Int} (h0 : 0 ≤ j) (h1 : j < Rz 240 48 D k) (h2 : 0 ≤ m) (h3 : m < pcs (vL D k j)) : LbK D k 55 (4 * (8 * k + j) + m) (vQ D k j m) (2 + upc (vL D k j) m) := Or.inr (Or.inr (Or.inr (Or.inr (Or.inr ⟨rfl, j, m, h0, h1, h2, h3, rfl, rfl, rfl⟩))))
end LBK
/-- all cells -/
def Lb (D : DD) (a : Nat) (i p s : Int) : Prop := (∃ k, 0 ≤ k ∧ k < 80 ∧ Rz 240 36 D k = 1 ∧ LbK D k a i p s) ∨ (a = 56 ∧ 0 ≤ i ∧ i < 256 ∧ 1 ≤ Rz 768 57 D i ∧ p = Rz 768 56 D i ∧ s = 2)
/-- a key in the class and in the reference -/
def KR (Dc Dm : DD) (k : Int) : Prop :=
  Rz 80 5 Dc k = Rz 240 40 Dm k ∧ Rz 1024 3 Dc (Rz 240 40 Dm k) = 6 ∧
  (Rz 1024 4 Dc (Rz 240 40 Dm k) = Rz 240 38 Dm k ∧ Rz 1024 4 Dc (Rz 240 40 Dm k + 1) = Rz 240 37 Dm k ∧ Rz 1024 4 Dc (Rz 240 40 Dm k + 4) = Rz 240 41 Dm k ∧ Rz 1024 4 Dc (Rz 240 40 Dm k + 5) = Rz 240 39 Dm k) ∧
  ((0 ≤ Rz 240 38 Dm k ∧ Rz 240 38 Dm k ≤ 9999) ∧ (0 ≤ Rz 240 41 Dm k ∧ Rz 240 41 Dm k ≤ 255) ∧ (Rz 240 39 Dm k = -1 ∨ (0 ≤ Rz 240 39 Dm k ∧ Rz 240 39 Dm k < 80 ∧ Rz 240 42 Dm k = 0 ∧ Rz 240 48 Dm k = 0)) ∧ (Rz 240 48 Dm k = 0 → Rz 240 49 Dm k = -1)) ∧
  LC (Rz 1024 4 Dc) (Rz 1024 3 Dc) (Rz 1024 4 Dc (Rz 240 40 Dm k + 2)) (Rz 240 42 Dm k) (ml Dm k) (mc Dm k) (mE Dm k) (Rz 240 43 Dm k) ∧ MW Dm k ∧
  VC (Rz 1024 4 Dc) (Rz 1024 3 Dc) (Rz 1024 4 Dc (Rz 240 40 Dm k + 3)) (Rz 240 48 Dm k) (Rz 240 49 Dm k) (Rz 240 50 Dm k) (vN Dm k) (vS Dm k) (vL Dm k) (vP Dm k) (vQ Dm k)
/-- a key of the reference stays as it is -/
def MS (D D' : DD) (k : Int) : Prop := (∀ a, a ∈ [37, 38, 39, 40, 41, 42, 43, 48, 49, 50] → Rz 240 a D' k = Rz 240 a D k) ∧ (∀ a, a ∈ [44, 45, 51, 52, 53, 54] → ∀ i, 0 ≤ i → i < 8 → Rz 1920 a D' (8 * k + i) = Rz 1920 a D (8 * k + i)) ∧
  (∀ a, a ∈ [46, 47, 55] → ∀ i, 0 ≤ i → i < 32 → Rz 7680 a D' (32 * k + i) = Rz 7680 a D (32 * k + i))
theorem MS.rf (D : DD) (k : Int) : MS D D k := ⟨fun _ _ => rfl, fun _ _ _ _ _ => rfl, fun _ _ _ _ _ => rfl⟩
theorem MS.trans {D D1 D2 : DD} {k : Int} (h : MS D D1 k) (g : MS D1 D2 k) : MS D D2 k := ⟨fun a z => (g.1 a z).trans (h.1 a z), fun a z i x y => (g.2.1 a z i x y).trans (h.2.1 a z i x y), fun a z i x y => (g.2.2 a z i x y).trans (h.2.2 a z i x y)⟩
/-- a cell of the class stays as it is -/
def Fr (D D' : DD) (p s : Int) : Prop := Rz 1024 3 D' p = Rz 1024 3 D p ∧ ∀ j, 0 ≤ j → j < s → Rz 1024 4 D' (p + j) = Rz 1024 4 D (p + j)
theorem Fr.trans {D D1 D2 : DD} {p s : Int} (h : Fr D D1 p s) (g : Fr D1 D2 p s) : Fr D D2 p s := ⟨g.1.trans h.1, fun j a b => (g.2 j a b).trans (h.2 j a b)⟩
theorem Fr.rf (D : DD) (p s : Int) : Fr D D p s := ⟨rfl, fun _ _ _ => rfl⟩
theorem Fr.of {D D' : DD} {p s : Int} (h3 : D' 3 = D 3) (h4 : D' 4 = D 4) : Fr D D' p s := ⟨R_cg h3 p, fun j _ _ => R_cg h4 _⟩
theorem MW.cong {D D' : DD} {k : Int} (h : MW D k) (hm : MS D D' k) : MW D' k := by
  obtain ⟨h1, h2, h3, h4⟩ := id h
  have e42 := hm.1 42 (by decide)
  have ec : ∀ i, 0 ≤ i → i < Rz 240 42 D k → mc D' k i = mc D k i := fun i a b => hm.2.1 45 (by decide) i a (by omega)
  have es : sm (mc D' k) (Rz 240 42 D' k) = sm (mc D k) (Rz 240 42 D k) := by rw [e42]; exact sm_cong (fun j a b => ec j a b)
  have tot := h.tot (i := Rz 240 42 D k) (by omega) (Int.le_refl _)
  refine ⟨by rw [e42]; exact h1, fun i a b => ?_, fun j a b => ?_, fun j j' a b c => ?_⟩
  · rw [e42] at b
    rw [ec i a b]
    exact h2 i a b
  · rw [es] at b
    have e1 : mn_ D' k j = mn_ D k j := hm.2.2 47 (by decide) j a (by omega)
    have e2 : me D' k j = me D k j := hm.2.2 46 (by decide) j a (by omega)
    rw [e1, e2]
    exact h3 j a b
  · rw [es] at c
    have e1 : mn_ D' k j = mn_ D k j := hm.2.2 47 (by decide) j a (by omega)
    have e2 : mn_ D' k j' = mn_ D k j' := hm.2.2 47 (by decide) j' (by omega) (by omega)
    rw [e1, e2]
    exact h4 j j' a b c
