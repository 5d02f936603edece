/-! the row of a new key, in the reference -/
theorem row_m {D : DD} {K k x ta p ri : Int} (hK : 0 ≤ K ∧ K < 80) (hk : 0 ≤ k ∧ k < 80) (kK : k ≠ K) (h66 : D 66 0 = p) (hri : Rz 240 41 D k = ri) : ∃ D', (∀ F : DD → Res, (gD (up2 D 35 0 ((D 35 0) + 1)) fun D2 => wrZ 240 36 K 1 D2 fun D3 => wrA 240 37 K k D3 fun D4 => wrA 240 38 K x D4 fun D5 => wrA 240 39 K ta D5 fun D6 => wrA 240 40 K (D6 66 0) D6 fun D7 => rdA 240 41 k D7 fun v1 => wrA 240 41 K v1 D7 fun D8 => wrA 240 42 K 0 D8 fun D9 => wrA 240 43 K (-1) D9 fun D10 => wrA 240 48 K 0 D10 fun D11 => wrA 240 49 K (-1) D11 fun D12 => F D12) = F D') ∧
    (∀ b, b ∉ [35, 36, 37, 38, 39, 40, 41, 42, 43, 48, 49] → D' b = D b) ∧ D' 35 0 = D 35 0 + 1 ∧ HiEq D D' ∧ (∀ i, Rz 240 36 D' i = if i = K then 1 else Rz 240 36 D i) ∧
    (∀ a, a ∈ [36, 37, 38, 39, 40, 41, 42, 43, 48, 49] → ∀ i, i ≠ K → Rz 240 a D' i = Rz 240 a D i) ∧ Rz 240 37 D' K = k ∧ Rz 240 38 D' K = x ∧ Rz 240 39 D' K = ta ∧ Rz 240 40 D' K = p ∧ Rz 240 41 D' K = ri ∧ Rz 240 42 D' K = 0 ∧ Rz 240 48 D' K = 0 ∧ Rz 240 49 D' K = -1 := by
  have t35 : ∀ {a : Nat} {D : DD} {v : Int}, a ≠ 35 → Tz 240 a D K v 35 = D 35 := fun h => T_ot (Ne.symm h)
  refine ⟨Tz 240 49 (Tz 240 48 (Tz 240 43 (Tz 240 42 (Tz 240 41 (Tz 240 40 (Tz 240 39 (Tz 240 38 (Tz 240 37 (Tz 240 36 (up2 D 35 0 (D 35 0 + 1)) K 1) K k) K x) K ta) K p) K ri) K 0) K (-1)) K 0) K (-1), fun F => ?_, fun b hb => ?_, ?_, ?_, fun i => ?_, fun a ha i hi => ?_, ?_, ?_, ?_, ?_, ?_, ?_, ?_, ?_⟩
  · simp only [gD]
    rw [wrZ_T (by omega) (Or.inr rfl), wrA_T (by omega), wrA_T (by omega), wrA_T (by omega), T_ot (show (66 : Nat) ≠ 39 by decide), T_ot (show (66 : Nat) ≠ 38 by decide), T_ot (show (66 : Nat) ≠ 37 by decide), T_ot (show (66 : Nat) ≠ 36 by decide), up2_ot (show (66 : Nat) ≠ 35 by decide), h66, wrA_T (by omega), rdA_R (by omega), R_T_ot (by decide), R_T_ot (by decide), R_T_ot (by decide), R_T_ot (by decide), R_T_ot (by decide), R_up2_ot (by decide), hri, wrA_T (by omega), wrA_T (by omega), wrA_T (by omega), wrA_T (by omega), wrA_T (by omega)]
  · rw [T_ot (nin hb (by decide)), T_ot (nin hb (by decide)), T_ot (nin hb (by decide)), T_ot (nin hb (by decide)), T_ot (nin hb (by decide)), T_ot (nin hb (by decide)), T_ot (nin hb (by decide)), T_ot (nin hb (by decide)), T_ot (nin hb (by decide)), T_ot (nin hb (by decide)), up2_ot (nin hb (by decide))]
  · rw [t35 (by decide), t35 (by decide), t35 (by decide), t35 (by decide), t35 (by decide), t35 (by decide), t35 (by decide), t35 (by decide), t35 (by decide), t35 (by decide), up2_eq]
  · have st : ∀ {E : DD} {a : Nat} {v : Int}, lenA a = 80 → HiEq E (Tz 240 a E K v) := fun h => HiEq.T h (by omega)
    exact ((((((((((HiEq.up (a := 35) (m := 1) (by decide) (by omega)).trans (st (by decide))).trans (st (by decide))).trans (st (by decide))).trans (st (by decide))).trans (st (by decide))).trans (st (by decide))).trans (st (by decide))).trans (st (by decide))).trans (st (by decide))).trans (st (by decide))
  · rw [R_T_ot (by decide), R_T_ot (by decide), R_T_ot (by decide), R_T_ot (by decide), R_T_ot (by decide), R_T_ot (by decide), R_T_ot (by decide), R_T_ot (by decide), R_T_ot (by decide), R_T, R_up2_ot (by decide)]
    by_cases q : i = K
    · rw [if_pos ⟨by omega, q⟩, if_pos q]
    · rw [if_neg (fun z => q z.2), if_neg q]
  · have st : ∀ {E : DD} {b : Nat} {v : Int}, Rz 240 a (Tz 240 b E K v) i = Rz 240 a E i := fun {E b v} => by
      by_cases g : a = b
      · subst g; exact R_T_ne hi
      · exact R_T_ot g
    rw [st, st, st, st, st, st, st, st, st, st, R_up2_ot (by intro e; subst e; revert ha; decide)]
  · rw [R_T_ot (by decide), R_T_ot (by decide), R_T_ot (by decide), R_T_ot (by decide), R_T_ot (by decide), R_T_ot (by decide), R_T_ot (by decide), R_T_ot (by decide), R_T_eq (by omega)]
  · rw [R_T_ot (by decide), R_T_ot (by decide), R_T_ot (by decide), R_T_ot (by decide), R_T_ot (by decide), R_T_ot (by decide), R_T_ot (by decide), R_T_eq (by omega)]
  · rw [R_T_ot (by decide), R_T_ot (by decide), R_T_ot (by decide), R_T_ot (by decide), R_T_ot (by decide), R_T_ot (by decide), R_T_eq (by omega)]
  · rw [R_T_ot (by decide), R_T_ot (by decide), R_T_ot (by decide), R_T_ot (by decide), R_T_ot (by decide), R_T_eq (by omega)]
  · rw [R_T_ot (by decide), R_T_ot (by decide), R_T_ot (by decide), R_T_ot (by decide), R_T_eq (by omega)]
  · rw [R_T_ot (by decide), R_T_ot (by decide), R_T_ot (by decide), R_T_eq (by omega)]
  · rw [R_T_ot (by decide), R_T_eq (by omega)]
  · rw [R_T_eq (by omega)]
theorem MT.has {D : DD} {k : Int} (h : MT D) (hk : 0 ≤ k ∧ k < 80) (ht : th D k) (hr : 0 ≤ Rz 240 41 D k ∧ Rz 240 41 D k ≤ 255) : 1 ≤ Rz 768 57 D (Rz 240 41 D k) ∧ Rz 768 57 D (Rz 240 41 D k) ≤ 80 := by
  rw [h.2.2.2.2.2 _ hr.1 (by omega)]
  have b := sm_bd (f := fun i => if Rz 240 36 D i = 1 ∧ Rz 240 41 D i = Rz 240 41 D k then 1 else 0) (b := 1) (by decide) 80 80 rfl (fun j _ _ => by
    split <;> omega)
  have b0 := sm_bd (f := fun i => if Rz 240 36 D i = 1 ∧ Rz 240 41 D i = Rz 240 41 D k then 1 else 0) (b := 1) (by decide) k.toNat k (by omega) (fun j _ _ => by
    split <;> omega)
  have s := sm_step (f := fun i => if Rz 240 36 D i = 1 ∧ Rz 240 41 D i = Rz 240 41 D k then 1 else 0) (j := 80) hk.1 hk.2 (fun j _ _ => by
    split <;> omega)
  rw [if_pos ⟨ht, rfl⟩] at s
  omega
section LABELS
variable {T : Int → Prop} {R S S' : Int → Int} {Dc Dm Dc' : DD}
/-- labels are the same where the counts stay above 0 -/
theorem Lb.sup {a : Nat} {i p s : Int} (h : ∀ i, 1 ≤ S' i → 1 ≤ S i) (l : Lb T R S' Dm a i p s) : Lb T R S Dm a i p s := by
  rcases l with l | ⟨l1, l2, l3, l4, l5, l6⟩
  · exact Or.inl l
  · exact Or.inr ⟨l1, l2, l3, h i l4, l5, l6⟩
theorem Fs.sup {p n : Int} (f : Fs T R S Dc Dm p n) (h : ∀ i, 1 ≤ S' i → 1 ≤ S i) (h3 : Dc' 3 = Dc 3) : Fs T R S' Dc' Dm p n := ⟨by rw [R_cg h3]; exact f.1, f.2.1, fun a i s l => f.2.2 a i s (l.sup h)⟩
theorem Gt.sup {i p s : Int} (f : Gt T R S Dc Dm i p s) (h : ∀ i, 1 ≤ S' i → 1 ≤ S i) (h3 : Dc' 3 = Dc 3) (h9 : Dc' 9 = Dc 9) : Gt T R S' Dc' Dm i p s := ⟨by rw [R_cg h9]; exact f.1, f.2.1, f.2.2.sup h h3⟩
end LABELS
