/-! the relation of the class and the reference -/
theorem VC.cong {un sz un' sz' : Int → Int} {hd n l z hd' l' z' : Int} {vn sd le vp vn' sd' le' vp' : Int → Int} {pc pc' : Int → Int → Int} (h : VC un sz hd n l z vn sd le vp pc) (hhd : hd' = hd) (hl : 1 ≤ n → l' = l ∧ z' = z)
    (hv : ∀ j, 0 ≤ j → j < n → vn' j = vn j ∧ sd' j = sd j ∧ le' j = le j ∧ vp' j = vp j) (hp : ∀ j i, 0 ≤ j → j < n → 0 ≤ i → i < pcs (le j) → pc' j i = pc j i)
    (hs : 1 ≤ n → sz' l = sz l) (hs2 : ∀ j, 0 ≤ j → j < n → sz' (vp j) = sz (vp j)) (hs3 : ∀ j i, 0 ≤ j → j < n → 0 ≤ i → i < pcs (le j) → sz' (pc j i) = sz (pc j i))
    (hu : 1 ≤ n → ∀ i, 0 ≤ i → i < n + 1 → un' (l + i) = un (l + i)) (hu2 : ∀ j i, 0 ≤ j → j < n → 0 ≤ i → i < 3 → un' (vp j + i) = un (vp j + i)) (hu3 : ∀ j i, 0 ≤ j → j < n → 0 ≤ i → i < pcs (le j) → un' (pc j i) = un (pc j i)) : VC un' sz' hd' n l' z' vn' sd' le' vp' pc' := by
  obtain ⟨h1, h2, h3, h4, h5⟩ := h
  refine ⟨h1, ?_, fun q => ?_, fun j a b => ?_, fun j j' a b c => ?_⟩
  · rw [hhd, h2]
    by_cases q : n = 0
    · rw [if_pos q, if_pos q]
    · rw [if_neg q, if_neg q, (hl (by omega)).1]
  · obtain ⟨a1, a2, a3, a4, a5⟩ := h3 q
    obtain ⟨e1, e2⟩ := hl q
    subst e1 e2
    refine ⟨a1, by rw [hs q, a2], ?_, a4, fun j a b => ?_⟩
    · have := hu q 0 (by omega) (by omega)
      rw [Int.add_zero] at this
      rw [this, a3]
    · have := hu q (1 + j) (by omega) (by omega)
      rw [← Int.add_assoc] at this
      rw [this, a5 j a b, (hv j a b).2.2.2]
  · obtain ⟨b1, b2, b3, b4, b5, b6, b7⟩ := h4 j a b
    obtain ⟨e1, e2, e3, e4⟩ := hv j a b
    have u0 := hu2 j 0 a b (by omega) (by omega)
    have u1 := hu2 j 1 a b (by omega) (by omega)
    have u2 := hu2 j 2 a b (by omega) (by omega)
    rw [Int.add_zero] at u0
    rw [e1, e2, e3, e4, u0, u1, u2, hs2 j a b]
    have hb := pcs_bd b2
    refine ⟨b1, b2, b3, b4, b5, ?_, fun i c d => ?_⟩
    · rw [b6]
      by_cases q : pcs (le j) = 0
      · rw [if_pos q, if_pos q]
      · rw [if_neg q, if_neg q, hp j 0 a b (by omega) (by omega)]
    · obtain ⟨c1, c2⟩ := b7 i c d
      rw [hp j i a b c d, hs3 j i a b c d, hu3 j i a b c d, c1, c2]
      refine ⟨rfl, ?_⟩
      by_cases q : i + 1 < pcs (le j)
      · rw [if_pos q, if_pos q, hp j (i + 1) a b (by omega) q]
      · rw [if_neg q, if_neg q]
  · rw [(hv j a (by omega)).1, (hv j' (by omega) c).1]
    exact h5 j j' a b c
/-- the cells of a key: array and index in the reference, place, size -/
def LbK (D : DD) (k : Int) (a : Nat) (i p s : Int) : Prop :=
  (a = 40 ∧ i = k ∧ p = Rz 240 40 D k ∧ s = 6) ∨ (a = 43 ∧ i = k ∧ 2 ≤ Rz 240 42 D k ∧ p = Rz 240 43 D k ∧ s = 9) ∨ (a = 44 ∧ ∃ j, 0 ≤ j ∧ j < Rz 240 42 D k ∧ i = 8 * k + j ∧ p = ml D k j ∧ s = 5) ∨
  (a = 49 ∧ i = k ∧ 1 ≤ Rz 240 48 D k ∧ p = Rz 240 49 D k ∧ s = Rz 240 50 D k) ∨ (a = 54 ∧ ∃ j, 0 ≤ j ∧ j < Rz 240 48 D k ∧ i = 8 * k + j ∧ p = vP D k j ∧ s = 3) ∨
  (a = 55 ∧ ∃ j m, 0 ≤ j ∧ j < Rz 240 48 D k ∧ 0 ≤ m ∧ m < pcs (vL D k j) ∧ i = 4 * (8 * k + j) + m ∧ p = vQ D k j m ∧ s = 2 + upc (vL D k j) m)
section LBK
variable {D : DD} {k : Int}
theorem LbK.key : LbK D k 40 k (Rz 240 40 D k) 6 := Or.inl ⟨rfl, rfl, rfl, rfl⟩
theorem LbK.idx (h : 2 ≤ Rz 240 42 D k) : LbK D k 43 k (Rz 240 43 D k) 9 := Or.inr (Or.inl ⟨rfl, rfl, h, rfl, rfl⟩)
theorem LbK.lea {j : Int} (h0 : 0 ≤ j) (h1 : j < Rz 240 42 D k) : LbK D k 44 (8 * k + j) (ml D k j) 5 := Or.inr (Or.inr (Or.inl ⟨rfl, j, h0, h1, rfl, rfl, rfl⟩))
theorem LbK.vls (h : 1 ≤ Rz 240 48 D k) : LbK D k 49 k (Rz 240 49 D k) (Rz 240 50 D k) := Or.inr (Or.inr (Or.inr (Or.inl ⟨rfl, rfl, h, rfl, rfl⟩)))
theorem LbK.val {j : Int} (h0 : 0 ≤ j) (h1 : j < Rz 240 48 D k) : LbK D k 54 (8 * k + j) (vP D k j) 3 := Or.inr (Or.inr (Or.inr (Or.inr (Or.inl ⟨rfl, j, h0, h1, rfl, rfl, rfl⟩))))
theorem LbK.pie {j m : Int} (h0 : 0 ≤ j) (h1 : j < Rz 240 48 D k) (h2 : 0 ≤ m) (h3 : m < pcs (vL D k j)) : LbK D k 55 (4 * (8 * k + j) + m) (vQ D k j m) (2 + upc (vL D k j) m) := Or.inr (Or.inr (Or.inr (Or.inr (Or.inr ⟨rfl, j, m, h0, h1, h2, h3, rfl, rfl, rfl⟩))))
end LBK
/-- all cells, of the keys T -/
def Lb (T : Int → Prop) (R S : Int → Int) (D : DD) (a : Nat) (i p s : Int) : Prop := (∃ k, 0 ≤ k ∧ k < 80 ∧ T k ∧ LbK D k a i p s) ∨ (a = 56 ∧ 0 ≤ i ∧ i < 256 ∧ 1 ≤ S i ∧ p = R i ∧ s = 2)
/-- a key in the class and in the reference -/
def KR (Dc Dm : DD) (k : Int) : Prop :=
  Rz 80 5 Dc k = Rz 240 40 Dm k ∧ Rz 1024 3 Dc (Rz 240 40 Dm k) = 6 ∧
  (Rz 1024 4 Dc (Rz 240 40 Dm k) = Rz 240 38 Dm k ∧ Rz 1024 4 Dc (Rz 240 40 Dm k + 1) = Rz 240 37 Dm k ∧ Rz 1024 4 Dc (Rz 240 40 Dm k + 4) = Rz 240 41 Dm k ∧ Rz 1024 4 Dc (Rz 240 40 Dm k + 5) = Rz 240 39 Dm k) ∧
  ((0 ≤ Rz 240 38 Dm k ∧ Rz 240 38 Dm k ≤ 9999) ∧ (0 ≤ Rz 240 41 Dm k ∧ Rz 240 41 Dm k ≤ 255) ∧ (Rz 240 39 Dm k = -1 ∨ (0 ≤ Rz 240 39 Dm k ∧ Rz 240 39 Dm k < 80 ∧ Rz 240 42 Dm k = 0 ∧ Rz 240 48 Dm k = 0)) ∧ (Rz 240 48 Dm k = 0 → Rz 240 49 Dm k = -1)) ∧
  LC (Rz 1024 4 Dc) (Rz 1024 3 Dc) (Rz 1024 4 Dc (Rz 240 40 Dm k + 2)) (Rz 240 42 Dm k) (ml Dm k) (mc Dm k) (mE Dm k) (Rz 240 43 Dm k) ∧ MW Dm k ∧
  VC (Rz 1024 4 Dc) (Rz 1024 3 Dc) (Rz 1024 4 Dc (Rz 240 40 Dm k + 3)) (Rz 240 48 Dm k) (Rz 240 49 Dm k) (Rz 240 50 Dm k) (vN Dm k) (vS Dm k) (vL Dm k) (vP Dm k) (vQ Dm k)
/-- a key of the reference stays as it is -/
def MS (D D' : DD) (k : Int) : Prop := (∀ a, a ∈ [37, 38, 39, 40, 41, 42, 43, 48, 49, 50] → Rz 240 a D' k = Rz 240 a D k) ∧ (∀ a, a ∈ [44, 45, 51, 52, 53, 54] → ∀ i, 0 ≤ i → i < 8 → Rz 1920 a D' (8 * k + i) = Rz 1920 a D (8 * k + i)) ∧
  (∀ a, a ∈ [46, 47, 55] → ∀ i, 0 ≤ i → i < 32 → Rz 7680 a D' (32 * k + i) = Rz 7680 a D (32 * k + i))
theorem MS.rf (D : DD) (k : Int) : MS D D k := ⟨fun _ _ => rfl, fun _ _ _ _ _ => rfl, fun _ _ _ _ _ => rfl⟩
theorem MS.trans {D D1 D2 : DD} {k : Int} (h : MS D D1 k) (g : MS D1 D2 k) : MS D D2 k := ⟨fun a z => (g.1 a z).trans (h.1 a z), fun a z i x y => (g.2.1 a z i x y).trans (h.2.1 a z i x y), fun a z i x y => (g.2.2 a z i x y).trans (h.2.2 a z i x y)⟩
/-- a cell of the class stays as it is -/
def Fr (D D' : DD) (p s : Int) : Prop := Rz 1024 3 D' p = Rz 1024 3 D p ∧ ∀ j, 0 ≤ j → j < s → Rz 1024 4 D' (p + j) = Rz 1024 4 D (p + j)
theorem Fr.trans {D D1 D2 : DD} {p s : Int} (h : Fr D D1 p s) (g : Fr D1 D2 p s) : Fr D D2 p s := ⟨g.1.trans h.1, fun j a b => (g.2 j a b).trans (h.2 j a b)⟩
theorem Fr.rf (D : DD) (p s : Int) : Fr D D p s := ⟨rfl, fun _ _ _ => rfl⟩
theorem Fr.of {D D' : DD} {p s : Int} (h3 : D' 3 = D 3) (h4 : D' 4 = D 4) : Fr D D' p s := ⟨R_cg h3 p, fun j _ _ => R_cg h4 _⟩
theorem MW.cong {D D' : DD} {k : Int} (h : MW D k) (hm : MS D D' k) : MW D' k := by
  obtain ⟨h1, h2, h3, h4⟩ := id h
  have e42 := hm.1 42 (by decide)
  have ec : ∀ i, 0 ≤ i → i < Rz 240 42 D k → mc D' k i = mc D k i := fun i a b => hm.2.1 45 (by decide) i a (by omega)
  have es : sm (mc D' k) (Rz 240 42 D' k) = sm (mc D k) (Rz 240 42 D k) := by rw [e42]; exact sm_cong (fun j a b => ec j a b)
  have tot := h.tot (i := Rz 240 42 D k) (by omega) (Int.le_refl _)
  refine ⟨by rw [e42]; exact h1, fun i a b => ?_, fun j a b => ?_, fun j j' a b c => ?_⟩
  · rw [e42] at b
    rw [ec i a b]
    exact h2 i a b
  · rw [es] at b
    have e1 : mn_ D' k j = mn_ D k j := hm.2.2 47 (by decide) j a (by omega)
    have e2 : me D' k j = me D k j := hm.2.2 46 (by decide) j a (by omega)
    rw [e1, e2]
    exact h3 j a b
  · rw [es] at c
    have e1 : mn_ D' k j = mn_ D k j := hm.2.2 47 (by decide) j a (by omega)
    have e2 : mn_ D' k j' = mn_ D k j' := hm.2.2 47 (by decide) j' (by omega) (by omega)
    rw [e1, e2]
    exact h4 j j' a b c
theorem pcs_le4 {L : Int} (h : 0 ≤ L ∧ L ≤ 30) : pcs L ≤ 4 := (pcs_bd h).2
theorem KR.tot {Dc Dm : DD} {k : Int} (h : KR Dc Dm k) : 0 ≤ sm (mc Dm k) (Rz 240 42 Dm k) ∧ sm (mc Dm k) (Rz 240 42 Dm k) ≤ 32 := by
  obtain ⟨-, -, -, -, -, h6, -⟩ := h
  have := h6.tot (i := Rz 240 42 Dm k) h6.1.1 (Int.le_refl _)
  have := h6.1
  omega
/-- what is not touched stays in relation -/
theorem KR.frame {Dc Dm Dc' Dm' : DD} {k : Int} (h : KR Dc Dm k) (h5 : Rz 80 5 Dc' k = Rz 80 5 Dc k) (hm : MS Dm Dm' k) (hf : ∀ a i p s, LbK Dm k a i p s → Fr Dc Dc' p s) : KR Dc' Dm' k := by
  have tot := h.tot
  obtain ⟨h1, h2, ⟨u0, u1, u4, u5⟩, h4, hL, hW, hV⟩ := h
  have m37 := hm.1 37 (by decide)
  have m38 := hm.1 38 (by decide)
  have m39 := hm.1 39 (by decide)
  have m40 := hm.1 40 (by decide)
  have m41 := hm.1 41 (by decide)
  have m42 := hm.1 42 (by decide)
  have m43 := hm.1 43 (by decide)
  have m48 := hm.1 48 (by decide)
  have m49 := hm.1 49 (by decide)
  have m50 := hm.1 50 (by decide)
  obtain ⟨kf, kf2⟩ := hf _ _ _ _ LbK.key
  have k0 := kf2 0 (by omega) (by omega)
  rw [Int.add_zero] at k0
  have n8 := hL.1
  have v8 := hV.1
  unfold KR
  rw [m37, m38, m39, m40, m41, m42, m43, m48, m49, m50, h5, kf, k0, kf2 1 (by omega) (by omega), kf2 4 (by omega) (by omega), kf2 5 (by omega) (by omega), kf2 2 (by omega) (by omega), kf2 3 (by omega) (by omega)]
  refine ⟨h1, h2, ⟨u0, u1, u4, u5⟩, h4, ?_, hW.cong hm, ?_⟩
  · refine hL.cong rfl (fun i a b => ⟨hm.2.1 44 (by decide) i a (by omega), hm.2.1 45 (by decide) i a (by omega)⟩) (fun j a b => ?_) (fun _ => rfl) (fun i a b => ?_) (fun q => ?_) (fun i j a b c d => ?_) (fun q j c d => ?_)
    · have e1 : mn_ Dm' k j = mn_ Dm k j := hm.2.2 47 (by decide) j a (by omega)
      have e2 : me Dm' k j = me Dm k j := hm.2.2 46 (by decide) j a (by omega)
      unfold mE
      rw [e1, e2]
    · rw [(hf _ _ _ _ (LbK.lea a b)).1]
      exact (hL.2.2.1 i a b).1
    · rw [(hf _ _ _ _ (LbK.idx q)).1]
      exact (hL.2.2.2 q).1
    · exact (hf _ _ _ _ (LbK.lea a b)).2 j c d
    · exact (hf _ _ _ _ (LbK.idx q)).2 j c d
  · refine hV.cong rfl (fun _ => ⟨rfl, rfl⟩) (fun j a b => ⟨hm.2.1 51 (by decide) j a (by omega), hm.2.1 52 (by decide) j a (by omega), hm.2.1 53 (by decide) j a (by omega), hm.2.1 54 (by decide) j a (by omega)⟩) (fun j i a b c d => ?_) (fun q => (hf _ _ _ _ (LbK.vls q)).1) (fun j a b => (hf _ _ _ _ (LbK.val a b)).1) (fun j i a b c d => (hf _ _ _ _ (LbK.pie a b c d)).1)
      (fun q i a b => (hf _ _ _ _ (LbK.vls q)).2 i a (by have := (hV.2.2.1 q).2.2.2.1; omega)) (fun j i a b c d => (hf _ _ _ _ (LbK.val a b)).2 i c d) (fun j i a b c d => ?_)
    · have := pcs_le4 (hV.2.2.2.1 j a b).2.1
      have := hm.2.2 55 (by decide) (4 * j + i) (by omega) (by omega)
      rw [show 32 * k + (4 * j + i) = 4 * (8 * k + j) + i by omega] at this
      exact this
    · have := (hf _ _ _ _ (LbK.pie a b c d)).2 0 (Int.le_refl _) (by have := upc_bd (hV.2.2.2.1 j a b).2.1 ⟨c, d⟩; omega)
      rw [Int.add_zero] at this
      exact this
/-- the labels of a key that stays are the same -/
theorem LbK.cong {D D' : DD} {k : Int} {a : Nat} {i p s : Int} (hm : MS D D' k) (n8 : Rz 240 42 D k ≤ 8) (v8 : Rz 240 48 D k ≤ 8) (hl : ∀ j, 0 ≤ j → j < Rz 240 48 D k → 0 ≤ vL D k j ∧ vL D k j ≤ 30) (h : LbK D' k a i p s) : LbK D k a i p s := by
  have e42 := hm.1 42 (by decide)
  have e48 := hm.1 48 (by decide)
  rcases h with ⟨h1, h2, h3, h4⟩ | ⟨h1, h2, h3, h4, h5⟩ | ⟨h1, j, h2, h3, h4, h5, h6⟩ | ⟨h1, h2, h3, h4, h5⟩ | ⟨h1, j, h2, h3, h4, h5, h6⟩ | ⟨h1, j, m, h2, h3, h4, h5, h6, h7, h8⟩
  · subst h1 h2 h3 h4
    rw [hm.1 40 (by decide)]
    exact LbK.key
  · subst h1 h2 h4 h5
    rw [hm.1 43 (by decide)]
    exact LbK.idx (by omega)
  · subst h1 h4 h5 h6
    rw [show ml D' k j = ml D k j from hm.2.1 44 (by decide) j h2 (by omega)]
    exact LbK.lea h2 (by omega)
  · subst h1 h2 h4 h5
    rw [hm.1 49 (by decide), hm.1 50 (by decide)]
    exact LbK.vls (by omega)
  · subst h1 h4 h5 h6
    rw [show vP D' k j = vP D k j from hm.2.1 54 (by decide) j h2 (by omega)]
    exact LbK.val h2 (by omega)
  · have e := show vL D' k j = vL D k j from hm.2.1 53 (by decide) j h2 (by omega)
    rw [e] at h5 h8
    subst h1 h6 h7 h8
    have b4 := pcs_le4 (hl j h2 (by omega))
    have := hm.2.2 55 (by decide) (4 * j + m) (by omega) (by omega)
    rw [show 32 * k + (4 * j + m) = 4 * (8 * k + j) + m by omega] at this
    rw [show vQ D' k j m = vQ D k j m from this]
    exact LbK.pie h2 (by omega) h4 h5
/-- the tree of the reference -/
def MT (D : DD) : Prop :=
  (1 ≤ D 35 0 ∧ D 35 0 ≤ 80) ∧ (∀ k, 0 ≤ k → k < 80 → (Rz 240 36 D k = 0 ∨ Rz 240 36 D k = 1) ∧ (Rz 240 36 D k = 1 → k < D 35 0)) ∧ (Rz 240 36 D 0 = 1 ∧ Rz 240 37 D 0 = -1 ∧ Rz 240 39 D 0 = -1) ∧
  (∀ k, 1 ≤ k → k < 80 → Rz 240 36 D k = 1 → (0 ≤ Rz 240 37 D k ∧ Rz 240 37 D k < k) ∧ Rz 240 36 D (Rz 240 37 D k) = 1 ∧ ∃ j, 0 ≤ j ∧ j < sm (mc D (Rz 240 37 D k)) (Rz 240 42 D (Rz 240 37 D k)) ∧ me D (Rz 240 37 D k) j = k) ∧
  (∀ k j, 0 ≤ k → k < 80 → Rz 240 36 D k = 1 → 0 ≤ j → j < sm (mc D k) (Rz 240 42 D k) → Rz 240 36 D (me D k j) = 1 ∧ Rz 240 37 D (me D k j) = k ∧ Rz 240 38 D (me D k j) = mn_ D k j) ∧
  (∀ r, 0 ≤ r → r < 256 → Rz 768 57 D r = sm (fun k => if Rz 240 36 D k = 1 ∧ Rz 240 41 D k = r then 1 else 0) 80)
/-- rights, side by side -/
def RR (R S : Int → Int) (Dc : DD) (r : Int) : Prop := (S r = 0 → Rz 256 6 Dc r = 0) ∧ (1 ≤ S r → Rz 256 6 Dc r = R r ∧ Rz 1024 3 Dc (R r) = 2 ∧ Rz 1024 4 Dc (R r) = S r)
/-- different labels, different places -/
def Own (T : Int → Prop) (R S : Int → Int) (D : DD) : Prop := ∀ a i p s b j t, Lb T R S D a i p s → Lb T R S D b j p t → a = b ∧ i = j
def T0 (T : Int → Prop) (R S : Int → Int) (Dc Dm : DD) : Prop := CR Dc Dm ∧ Dc 2 5 = Dm 35 0 ∧ (∀ k, 0 ≤ k → k < 80 → ¬ T k → Rz 80 5 Dc k = 0) ∧ (∀ k, 0 ≤ k → k < 80 → T k → KR Dc Dm k) ∧ (∀ r, 0 ≤ r → r < 256 → RR R S Dc r) ∧ Own T R S Dm
theorem KR.lb {Dc Dm : DD} {k : Int} {a : Nat} {i p s : Int} (h : KR Dc Dm k) (l : LbK Dm k a i p s) : Rz 1024 3 Dc p = s ∧ 2 ≤ s := by
  obtain ⟨-, h2, -, -, hL, -, hV⟩ := h
  rcases l with ⟨l1, l2, l3, l4⟩ | ⟨l1, l2, l3, l4, l5⟩ | ⟨l1, j, l2, l3, l4, l5, l6⟩ | ⟨l1, l2, l3, l4, l5⟩ | ⟨l1, j, l2, l3, l4, l5, l6⟩ | ⟨l1, j, m, l2, l3, l4, l5, l6, l7, l8⟩
  · subst l3 l4; exact ⟨h2, by decide⟩
  · subst l4 l5; exact ⟨(hL.2.2.2 l3).1, by decide⟩
  · subst l5 l6; exact ⟨(hL.2.2.1 j l2 l3).1, by decide⟩
  · subst l4 l5
    obtain ⟨a1, a2, a3, a4, -⟩ := hV.2.2.1 l3
    exact ⟨a2, by omega⟩
  · subst l5 l6; exact ⟨(hV.2.2.2.1 j l2 l3).2.2.1, by decide⟩
  · subst l7 l8
    obtain ⟨a1, a2, -, -, -, -, a3⟩ := hV.2.2.2.1 j l2 l3
    have := upc_bd a2 ⟨l4, l5⟩
    exact ⟨(a3 m l4 l5).1, by omega⟩
/-- a label says whose it is -/
theorem KR.same {Dc Dm : DD} {k k' : Int} {a : Nat} {i p s q t : Int} (h : KR Dc Dm k) (h' : KR Dc Dm k') (l : LbK Dm k a i p s) (l' : LbK Dm k' a i q t) : k = k' ∧ p = q ∧ s = t := by
  obtain ⟨-, -, -, -, hL, -, hV⟩ := h
  obtain ⟨-, -, -, -, hL', -, hV'⟩ := h'
  have n8 := hL.1
  have v8 := hV.1
  have n8' := hL'.1
  have v8' := hV'.1
  rcases l with ⟨l1, l2, l3, l4⟩ | ⟨l1, l2, l3, l4, l5⟩ | ⟨l1, j, l2, l3, l4, l5, l6⟩ | ⟨l1, l2, l3, l4, l5⟩ | ⟨l1, j, l2, l3, l4, l5, l6⟩ | ⟨l1, j, m, l2, l3, l4, l5, l6, l7, l8⟩ <;> rcases l' with ⟨m1, m2, m3, m4⟩ | ⟨m1, m2, m3, m4, m5⟩ | ⟨m1, j', m2, m3, m4, m5, m6⟩ | ⟨m1, m2, m3, m4, m5⟩ | ⟨m1, j', m2, m3, m4, m5, m6⟩ | ⟨m1, j', m', m2, m3, m4, m5, m6, m7, m8⟩ <;> try omega
  · have e : k = k' := by omega
    subst e
    exact ⟨rfl, by rw [l3, m3], by rw [l4, m4]⟩
  · have e : k = k' := by omega
    subst e
    exact ⟨rfl, by rw [l4, m4], by rw [l5, m5]⟩
  · have e : k = k' := by omega
    subst e
    have e : j = j' := by omega
    subst e
    exact ⟨rfl, by rw [l5, m5], by rw [l6, m6]⟩
  · have e : k = k' := by omega
    subst e
    exact ⟨rfl, by rw [l4, m4], by rw [l5, m5]⟩
  · have e : k = k' := by omega
    subst e
    have e : j = j' := by omega
    subst e
    exact ⟨rfl, by rw [l5, m5], by rw [l6, m6]⟩
  · have := pcs_le4 (hV.2.2.2.1 j l2 l3).2.1
    have := pcs_le4 (hV'.2.2.2.1 j' m2 m3).2.1
    have e : k = k' := by omega
    subst e
    have e : j = j' := by omega
    subst e
    have e : m = m' := by omega
    subst e
    exact ⟨rfl, by rw [l7, m7], by rw [l8, m8]⟩
theorem LbK.ne56 {Dm : DD} {k i p s : Int} {a : Nat} (l : LbK Dm k a i p s) : a ≠ 56 := by
  rcases l with ⟨l1, -⟩ | ⟨l1, -⟩ | ⟨l1, -⟩ | ⟨l1, -⟩ | ⟨l1, -⟩ | ⟨l1, -⟩ <;> omega
theorem T0.lb {T : Int → Prop} {R S : Int → Int} {Dc Dm : DD} {a : Nat} {i p s : Int} (h : T0 T R S Dc Dm) (l : Lb T R S Dm a i p s) : Rz 1024 3 Dc p = s ∧ 2 ≤ s := by
  rcases l with ⟨k, l1, l2, l3, l4⟩ | ⟨l1, l2, l3, l4, l5, l6⟩
  · exact (h.2.2.2.1 k l1 l2 l3).lb l4
  · subst l5 l6
    exact ⟨((h.2.2.2.2.1 i l2 l3).2 l4).2.1, by decide⟩
theorem CR.apart {Dc Dm : DD} (h : CR Dc Dm) {p q s t : Int} (hp : Rz 1024 3 Dc p = s) (hq : Rz 1024 3 Dc q = t) (hs : 1 ≤ s) (ht : 1 ≤ t) (ne : p ≠ q) : p + s ≤ q ∨ q + t ≤ p := by
  have := h.1.dis (u := p) (v := q) (by omega) (by omega) ne
  omega
theorem T0.ne {T : Int → Prop} {R S : Int → Int} {Dc Dm : DD} {a b : Nat} {i j p q s t : Int} (h : T0 T R S Dc Dm) (l : Lb T R S Dm a i p s) (m : Lb T R S Dm b j q t) (ne : a ≠ b ∨ i ≠ j) : p ≠ q := fun e => by
  subst e
  obtain ⟨e1, e2⟩ := h.2.2.2.2.2 _ _ _ _ _ _ _ l m
  rcases ne with z | z
  · exact z e1
  · exact z e2
/-- cells lie apart -/
theorem T0.dis {T : Int → Prop} {R S : Int → Int} {Dc Dm : DD} {a b : Nat} {i j p q s t : Int} (h : T0 T R S Dc Dm) (l : Lb T R S Dm a i p s) (m : Lb T R S Dm b j q t) (ne : a ≠ b ∨ i ≠ j) : p + s ≤ q ∨ q + t ≤ p := by
  obtain ⟨l1, l2⟩ := h.lb l
  obtain ⟨m1, m2⟩ := h.lb m
  exact h.1.apart l1 m1 (by omega) (by omega) (h.ne l m ne)
/-- a cell that is used and no one's -/
def Fs (T : Int → Prop) (R S : Int → Int) (Dc Dm : DD) (p n : Int) : Prop := Rz 1024 3 Dc p = n ∧ 1 ≤ n ∧ ∀ a i s, ¬ Lb T R S Dm a i p s
/-- one key alone is changed -/
theorem T0.one {T : Int → Prop} {R S : Int → Int} {Dc Dm Dc' Dm' : DD} {K : Int} (h : T0 T R S Dc Dm) (hK : 0 ≤ K ∧ K < 80) (hT : T K) (hC : CR Dc' Dm') (h25 : Dc' 2 5 = Dm' 35 0) (h5 : Dc' 5 = Dc 5) (h6 : Dc' 6 = Dc 6)
    (hM : ∀ k, 0 ≤ k → k < 80 → k ≠ K → MS Dm Dm' k) (hKR : KR Dc' Dm' K)
    (hF : ∀ a i p s, Lb T R S Dm a i p s → (∀ q t, ¬ LbK Dm K a i q t) → Fr Dc Dc' p s)
    (Mp : Nat → Int → Nat → Int → Prop) (Nf : Nat → Int → Int → Prop) (hMp : ∀ a i b j a' i', Mp a i a' i' → Mp b j a' i' → a = b ∧ i = j) (hNf : ∀ a i b j p, Nf a i p → Nf b j p → a = b ∧ i = j)
    (hL : ∀ a i p s, LbK Dm' K a i p s → (∃ a' i' s', LbK Dm K a' i' p s' ∧ Mp a i a' i') ∨ (Nf a i p ∧ ∀ b j t, ¬ Lb T R S Dm b j p t)) : T0 T R S Dc' Dm' := by
  have hKR0 := h.2.2.2.1 K hK.1 hK.2 hT
  have cls : ∀ a i p s, Lb T R S Dm' a i p s → LbK Dm' K a i p s ∨ (Lb T R S Dm a i p s ∧ ∀ q t, ¬ LbK Dm K a i q t) := by
    intro a i p s l
    rcases l with ⟨k, l1, l2, l3, l4⟩ | ⟨l1, l2, l3, l4, l5, l6⟩
    · by_cases hk : k = K
      · subst hk; exact Or.inl l4
      · have hkr := h.2.2.2.1 k l1 l2 l3
        have l4' := LbK.cong (hM k l1 l2 hk) hkr.2.2.2.2.1.1.2 hkr.2.2.2.2.2.2.1.2 (fun j a b => (hkr.2.2.2.2.2.2.2.2.2.1 j a b).2.1) l4
        exact Or.inr ⟨Or.inl ⟨k, l1, l2, l3, l4'⟩, fun q t z => hk (hkr.same hKR0 l4' z).1⟩
    · exact Or.inr ⟨Or.inr ⟨l1, l2, l3, l4, l5, l6⟩, fun q t z => z.ne56 l1⟩
  refine ⟨hC, h25, fun k a b c => ?_, fun k a b c => ?_, fun r a b => ?_, ?_⟩
  · rw [R_cg h5]
    exact h.2.2.1 k a b c
  · by_cases e : k = K
    · subst e; exact hKR
    · have hkr := h.2.2.2.1 k a b c
      exact hkr.frame (R_cg h5 k) (hM k a b e) (fun x i p s l => hF x i p s (Or.inl ⟨k, a, b, c, l⟩) (fun q t z => e (hkr.same hKR0 l z).1))
  · obtain ⟨f1, f2⟩ := h.2.2.2.2.1 r a b
    unfold RR
    rw [R_cg h6]
    refine ⟨f1, fun q => ?_⟩
    obtain ⟨f3, f4, f5⟩ := f2 q
    obtain ⟨g1, g2⟩ := hF 56 r (R r) 2 (Or.inr ⟨rfl, a, b, q, rfl, rfl⟩) (fun q t z => z.ne56 rfl)
    have := g2 0 (by omega) (by omega)
    rw [Int.add_zero] at this
    exact ⟨f3, by rw [g1, f4], by rw [this, f5]⟩
  · have inK : ∀ {a i p s}, LbK Dm K a i p s → Lb T R S Dm a i p s := fun z => Or.inl ⟨K, hK.1, hK.2, hT, z⟩
    intro a i p s b j t l m
    rcases cls a i p s l with l | ⟨l, l'⟩ <;> rcases cls b j p t m with m | ⟨m, m'⟩
    · rcases hL a i p s l with ⟨a1, i1, s1, z1, z2⟩ | ⟨z1, z2⟩ <;> rcases hL b j p t m with ⟨a2, i2, s2, y1, y2⟩ | ⟨y1, y2⟩
      · obtain ⟨e1, e2⟩ := h.2.2.2.2.2 _ _ _ _ _ _ _ (inK z1) (inK y1)
        subst e1 e2
        exact hMp _ _ _ _ _ _ z2 y2
      · exact absurd (inK z1) (y2 _ _ _)
      · exact absurd (inK y1) (z2 _ _ _)
      · exact hNf _ _ _ _ _ z1 y1
    · rcases hL a i p s l with ⟨a1, i1, s1, z1, z2⟩ | ⟨z1, z2⟩
      · obtain ⟨e1, e2⟩ := h.2.2.2.2.2 _ _ _ _ _ _ _ (inK z1) m
        subst e1 e2
        exact absurd z1 (m' _ _)
      · exact absurd m (z2 _ _ _)
    · rcases hL b j p t m with ⟨a1, i1, s1, z1, z2⟩ | ⟨z1, z2⟩
      · obtain ⟨e1, e2⟩ := h.2.2.2.2.2 _ _ _ _ _ _ _ (inK z1) l
        subst e1 e2
        exact absurd z1 (l' _ _)
      · exact absurd l (z2 _ _ _)
    · exact h.2.2.2.2.2 _ _ _ _ _ _ _ l m
