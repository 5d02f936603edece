/-! an entry goes out of a list of the reference: loops -/
section GOES
variable {k : Int}
theorem g10_loop (hk : 0 ≤ k ∧ k < 80) {D : DD} {at_ L : Int} (hL : 0 ≤ L ∧ L < 8) (ha : 0 ≤ at_ ∧ at_ ≤ 40) (hlo : ∀ i, 0 ≤ i → i ≤ L → 0 ≤ sm (mc D k) i ∧ sm (mc D k) i ≤ at_) (hhi : at_ < sm (mc D k) (L + 1)) (hb : sm (mc D k) (L + 1) ≤ 100) :
    ∀ (f : Nat) (i : Int), 0 ≤ i → i ≤ L → (L - i).toNat < f → ∀ K, pM_goes_10 k at_ f i D K = K L D := by
  intro f
  induction f with
  | zero => intro i b1 b2 b3; omega
  | succ f ih =>
    intro i b1 b2 b3 K
    rw [pM_goes_10, start_m hk ⟨by omega, by omega⟩, bnd_ok, w32_of (z := at_) (by omega)]
    by_cases g : i = L
    · subst g
      have h0 := hlo i b1 (Int.le_refl _)
      rw [w32_of (z := sm (mc D k) (i + 1)) (by omega), if_pos hhi]
    · have := hlo (i + 1) (by omega) (by omega)
      rw [w32_of (z := sm (mc D k) (i + 1)) (by omega), if_neg (by omega)]
      exact ih (i + 1) (by omega) (by omega) (by omega) K
theorem g41_loop (hk : 0 ≤ k ∧ k < 80) {N : Int} (hN : N ≤ 32) : ∀ (f : Nat) (j : Int) (D : DD), 0 ≤ j → j ≤ N - 1 → (N - 1 - j).toNat < f → ∃ D', (∀ K, pM_goes_41 k (N - 1) f j D K = K D') ∧ Lk D D' k ∧ (∀ b, b ≠ 46 → b ≠ 47 → D' b = D b) ∧ (∀ i, 0 ≤ i → i < 32 → me D' k i = if j ≤ i ∧ i < N - 1 then me D k (i + 1) else me D k i) ∧ (∀ i, 0 ≤ i → i < 32 → mn_ D' k i = if j ≤ i ∧ i < N - 1 then mn_ D k (i + 1) else mn_ D k i) := by
  intro f
  induction f with
  | zero => intro j D b1 b2 b3; omega
  | succ f ih =>
    intro j D b1 b2 b3
    by_cases g : j < N - 1
    · obtain ⟨D', e1, e2, e3, e4, e5⟩ := ih (j + 1) (Tz 7680 47 (Tz 7680 46 D (32 * k + j) (me D k (j + 1))) (32 * k + j) (mn_ D k (j + 1))) (by omega) (by omega) (by omega)
      have m46 : ∀ i, 0 ≤ i → i < 32 → me (Tz 7680 47 (Tz 7680 46 D (32 * k + j) (me D k (j + 1))) (32 * k + j) (mn_ D k (j + 1))) k i = if i = j then me D k (j + 1) else me D k i := fun i _ _ => by
        unfold me
        rw [R_T_ot (by decide), R_T]
        by_cases q : i = j
        · rw [if_pos ⟨⟨by omega, by omega⟩, by omega⟩, if_pos q]
        · rw [if_neg (fun z => q (by omega)), if_neg q]
      have m47 : ∀ i, 0 ≤ i → i < 32 → mn_ (Tz 7680 47 (Tz 7680 46 D (32 * k + j) (me D k (j + 1))) (32 * k + j) (mn_ D k (j + 1))) k i = if i = j then mn_ D k (j + 1) else mn_ D k i := fun i _ _ => by
        unfold mn_
        rw [R_T]
        by_cases q : i = j
        · rw [if_pos ⟨⟨by omega, by omega⟩, by omega⟩, if_pos q]
        · rw [if_neg (fun z => q (by omega)), if_neg q, R_T_ot (by decide)]
      refine ⟨D', fun K => ?_, ((Lk.T7680 (Or.inl rfl) hk (by omega)).trans (Lk.T7680 (Or.inr rfl) hk (by omega))).trans e2, fun b q1 q2 => by rw [e3 b q1 q2, T_ot q2, T_ot q1], fun i q1 q2 => ?_, fun i q1 q2 => ?_⟩
      · rw [pM_goes_41, w32_of (z := j) (by omega), w32_of (z := N - 1) (by omega), if_pos g, rdA_R ⟨by omega, by omega, by decide⟩, wrA_T ⟨by omega, by omega, by decide⟩, rdA_R ⟨by omega, by omega, by decide⟩, wrA_T ⟨by omega, by omega, by decide⟩, R_T_ot (by decide)]
        have := e1 K
        unfold me mn_ at this
        rw [show 32 * k + j + 1 = 32 * k + (j + 1) by omega]
        exact this
      · rw [e4 i q1 q2]
        by_cases z : j + 1 ≤ i ∧ i < N - 1
        · rw [if_pos z, if_pos (by omega), m46 _ (by omega) (by omega), if_neg (by omega)]
        · rw [if_neg z, m46 i q1 q2]
          by_cases z2 : i = j
          · rw [if_pos z2, if_pos (by omega), z2]
          · rw [if_neg z2, if_neg (by omega)]
      · rw [e5 i q1 q2]
        by_cases z : j + 1 ≤ i ∧ i < N - 1
        · rw [if_pos z, if_pos (by omega), m47 _ (by omega) (by omega), if_neg (by omega)]
        · rw [if_neg z, m47 i q1 q2]
          by_cases z2 : i = j
          · rw [if_pos z2, if_pos (by omega), z2]
          · rw [if_neg z2, if_neg (by omega)]
    · refine ⟨D, fun K => ?_, Lk.rf D k, fun _ _ _ => rfl, fun i _ _ => ?_, fun i _ _ => ?_⟩
      · rw [pM_goes_41, w32_of (z := j) (by omega), w32_of (z := N - 1) (by omega), if_neg g]
      · rw [if_neg (by omega)]
      · rw [if_neg (by omega)]
theorem g183_loop (hk : 0 ≤ k ∧ k < 80) {n : Int} (hn : 0 ≤ n ∧ n ≤ 7) : ∀ (f : Nat) (j : Int) (D : DD), Rz 240 42 D k = n → 0 ≤ j → j ≤ n → (n - j).toNat < f → ∃ D', (∀ K, pM_goes_183 k f j D K = K D') ∧ Lk D D' k ∧ (∀ b, b ≠ 44 → b ≠ 45 → D' b = D b) ∧ (∀ i, 0 ≤ i → i < 8 → ml D' k i = if j ≤ i ∧ i < n then ml D k (i + 1) else ml D k i) ∧ (∀ i, 0 ≤ i → i < 8 → mc D' k i = if j ≤ i ∧ i < n then mc D k (i + 1) else mc D k i) := by
  intro f
  induction f with
  | zero => intro j D b0 b1 b2 b3; omega
  | succ f ih =>
    intro j D b0 b1 b2 b3
    by_cases g : j < n
    · obtain ⟨D', e1, e2, e3, e4, e5⟩ := ih (j + 1) (Tz 1920 45 (Tz 1920 44 D (8 * k + j) (ml D k (j + 1))) (8 * k + j) (mc D k (j + 1))) (by rw [R_T_ot (by decide), R_T_ot (by decide)]; exact b0) (by omega) (by omega) (by omega)
      have m44 : ∀ i, 0 ≤ i → i < 8 → ml (Tz 1920 45 (Tz 1920 44 D (8 * k + j) (ml D k (j + 1))) (8 * k + j) (mc D k (j + 1))) k i = if i = j then ml D k (j + 1) else ml D k i := fun i _ _ => by
        unfold ml
        rw [R_T_ot (by decide), R_T]
        by_cases q : i = j
        · rw [if_pos ⟨⟨by omega, by omega⟩, by omega⟩, if_pos q]
        · rw [if_neg (fun z => q (by omega)), if_neg q]
      have m45 : ∀ i, 0 ≤ i → i < 8 → mc (Tz 1920 45 (Tz 1920 44 D (8 * k + j) (ml D k (j + 1))) (8 * k + j) (mc D k (j + 1))) k i = if i = j then mc D k (j + 1) else mc D k i := fun i _ _ => by
        unfold mc
        rw [R_T]
        by_cases q : i = j
        · rw [if_pos ⟨⟨by omega, by omega⟩, by omega⟩, if_pos q]
        · rw [if_neg (fun z => q (by omega)), if_neg q, R_T_ot (by decide)]
      refine ⟨D', fun K => ?_, ((Lk.T1920 (Or.inl rfl) hk (by omega)).trans (Lk.T1920 (Or.inr rfl) hk (by omega))).trans e2, fun b q1 q2 => by rw [e3 b q1 q2, T_ot q2, T_ot q1], fun i q1 q2 => ?_, fun i q1 q2 => ?_⟩
      · rw [pM_goes_183, rdA_R ⟨hk.1, by omega, by decide⟩, b0, w32_of (z := j) (by omega), w32_of (z := n) (by omega), if_pos g, rdA_R ⟨by omega, by omega, by decide⟩, wrA_T ⟨by omega, by omega, by decide⟩, rdA_R ⟨by omega, by omega, by decide⟩, wrA_T ⟨by omega, by omega, by decide⟩, R_T_ot (by decide)]
        have := e1 K
        unfold ml mc at this
        rw [show 8 * k + j + 1 = 8 * k + (j + 1) by omega]
        exact this
      · rw [e4 i q1 q2]
        by_cases z : j + 1 ≤ i ∧ i < n
        · rw [if_pos z, if_pos (by omega), m44 _ (by omega) (by omega), if_neg (by omega)]
        · rw [if_neg z, m44 i q1 q2]
          by_cases z2 : i = j
          · rw [if_pos z2, if_pos (by omega), z2]
          · rw [if_neg z2, if_neg (by omega)]
      · rw [e5 i q1 q2]
        by_cases z : j + 1 ≤ i ∧ i < n
        · rw [if_pos z, if_pos (by omega), m45 _ (by omega) (by omega), if_neg (by omega)]
        · rw [if_neg z, m45 i q1 q2]
          by_cases z2 : i = j
          · rw [if_pos z2, if_pos (by omega), z2]
          · rw [if_neg z2, if_neg (by omega)]
    · refine ⟨D, fun K => ?_, Lk.rf D k, fun _ _ _ => rfl, fun i _ _ => ?_, fun i _ _ => ?_⟩
      · rw [pM_goes_183, rdA_R ⟨hk.1, by omega, by decide⟩, b0, w32_of (z := j) (by omega), w32_of (z := n) (by omega), if_neg g]
      · rw [if_neg (by omega)]
      · rw [if_neg (by omega)]
end GOES
/-- what a list's own acts may change, when cells are given back, too -/
def Lg (D D' : DD) (k : Int) : Prop := (∀ b, b ∉ [32, 33, 42, 43, 44, 45, 46, 47, 58] → D' b = D b) ∧ (∀ j, j ≠ 41 → D' 32 j = D 32 j) ∧ HiEq D D' ∧ (∀ i, i ≠ k → Rz 240 42 D' i = Rz 240 42 D i ∧ Rz 240 43 D' i = Rz 240 43 D i) ∧
  (∀ i, (i < 8 * k ∨ 8 * k + 8 ≤ i) → Rz 1920 44 D' i = Rz 1920 44 D i ∧ Rz 1920 45 D' i = Rz 1920 45 D i) ∧ (∀ i, (i < 32 * k ∨ 32 * k + 32 ≤ i) → Rz 7680 46 D' i = Rz 7680 46 D i ∧ Rz 7680 47 D' i = Rz 7680 47 D i)
theorem Lg.trans {D D1 D2 : DD} {k : Int} (h : Lg D D1 k) (g : Lg D1 D2 k) : Lg D D2 k :=
  ⟨fun b hb => (g.1 b hb).trans (h.1 b hb), fun j hj => (g.2.1 j hj).trans (h.2.1 j hj), h.2.2.1.trans g.2.2.1, fun i hi => ⟨(g.2.2.2.1 i hi).1.trans (h.2.2.2.1 i hi).1, (g.2.2.2.1 i hi).2.trans (h.2.2.2.1 i hi).2⟩,
    fun i hi => ⟨(g.2.2.2.2.1 i hi).1.trans (h.2.2.2.2.1 i hi).1, (g.2.2.2.2.1 i hi).2.trans (h.2.2.2.2.1 i hi).2⟩, fun i hi => ⟨(g.2.2.2.2.2 i hi).1.trans (h.2.2.2.2.2 i hi).1, (g.2.2.2.2.2 i hi).2.trans (h.2.2.2.2.2 i hi).2⟩⟩
theorem Lk.lg {D D' : DD} {k : Int} (h : Lk D D' k) : Lg D D' k := ⟨fun b hb => h.1 b (nsub hb (by decide)), fun j _ => by rw [h.1 32 (by decide)], h.2.1, h.2.2.1, h.2.2.2.1, h.2.2.2.2⟩
theorem Lg.give {D D' : DD} {k : Int} (h : ∀ b, b ∉ [32, 33, 58] → D' b = D b) (h2 : ∀ j, j ≠ 41 → D' 32 j = D 32 j) (h3 : HiEq D D') : Lg D D' k :=
  ⟨fun b hb => h b (nsub hb (by decide)), h2, h3, fun i _ => ⟨R_cg (h 42 (by decide)) i, R_cg (h 43 (by decide)) i⟩, fun i _ => ⟨R_cg (h 44 (by decide)) i, R_cg (h 45 (by decide)) i⟩, fun i _ => ⟨R_cg (h 46 (by decide)) i, R_cg (h 47 (by decide)) i⟩⟩
theorem delF_lo {E : Int → Int} {t j : Int} (h : j < t) : delF E t j = E j := if_pos h
theorem delF_hi {E : Int → Int} {t j : Int} (h : t ≤ j) : delF E t j = E (j + 1) := if_neg (by omega)
theorem sm_del {c : Int → Int} {L : Int} (hL : 0 ≤ L) : ∀ (n : Nat) (i : Int), i = n → sm (delF c L) i = if i ≤ L then sm c i else sm c (i + 1) - c L := by
  intro n
  induction n with
  | zero =>
    intro i hi
    rw [if_pos (by omega), show i = 0 by omega, sm_0, sm_0]
  | succ n ih =>
    intro i hi
    have h1 := ih (i - 1) (by omega)
    rw [sm_p (by omega), h1]
    unfold delF
    by_cases g : i ≤ L
    · rw [if_pos (show i - 1 ≤ L by omega), if_pos (show i - 1 < L by omega), if_pos g, sm_p (f := c) (i := i) (by omega)]
    · rw [if_neg g, if_neg (show ¬ i - 1 < L by omega), show i - 1 + 1 = i by omega]
      by_cases g1 : i - 1 ≤ L
      · rw [if_pos g1, sm_s (f := c) (i := i) (by omega), show L = i - 1 by omega, sm_p (f := c) (i := i) (by omega)]; omega
      · rw [if_neg g1, sm_s (f := c) (i := i) (by omega)]; omega
theorem MW.del {D D' : DD} {k n' t N : Int} (h : MW D k) (hN : sm (mc D k) (Rz 240 42 D k) = N) (hn' : Rz 240 42 D' k = n') (hn8 : 0 ≤ n' ∧ n' ≤ 8) (hc' : ∀ i, 0 ≤ i → i < n' → 1 ≤ mc D' k i ∧ mc D' k i ≤ 4) (hN' : sm (mc D' k) n' = N - 1) (ht : 0 ≤ t ∧ t < N)
    (hE : ∀ j, 0 ≤ j → j < N - 1 → me D' k j = delF (me D k) t j ∧ mn_ D' k j = delF (mn_ D k) t j) : MW D' k ∧ ∀ j, 0 ≤ j → j < N - 1 → mE D' k j = delF (mE D k) t j := by
  subst hN
  have val : ∀ j, 0 ≤ j → j < sm (mc D k) (Rz 240 42 D k) - 1 → (j < t ∧ me D' k j = me D k j ∧ mn_ D' k j = mn_ D k j) ∨ (t ≤ j ∧ me D' k j = me D k (j + 1) ∧ mn_ D' k j = mn_ D k (j + 1)) := fun j a b => by
    obtain ⟨e1, e2⟩ := hE j a b
    rw [e1, e2]
    by_cases z : j < t
    · exact Or.inl ⟨z, delF_lo z, delF_lo z⟩
    · exact Or.inr ⟨by omega, delF_hi (by omega), delF_hi (by omega)⟩
  refine ⟨⟨?_, ?_, fun j a b => ?_, fun j j' a b c => ?_⟩, fun j a b => ?_⟩
  · rw [hn']; omega
  · rw [hn']; exact hc'
  · rw [hn', hN'] at b
    rcases val j a b with ⟨z, e1, e2⟩ | ⟨z, e1, e2⟩
    · rw [e1, e2]; exact h.2.2.1 j a (by omega)
    · rw [e1, e2]; exact h.2.2.1 (j + 1) (by omega) (by omega)
  · rw [hn', hN'] at c
    rcases val j a (by omega) with ⟨z, e1, e2⟩ | ⟨z, e1, e2⟩ <;> rcases val j' (by omega) c with ⟨z', e1', e2'⟩ | ⟨z', e1', e2'⟩
    · rw [e2, e2']; exact h.2.2.2 j j' a b (by omega)
    · rw [e2, e2']; exact h.2.2.2 j (j' + 1) a (by omega) (by omega)
    · omega
    · rw [e2, e2']; exact h.2.2.2 (j + 1) (j' + 1) (by omega) (by omega) (by omega)
  · unfold mE
    rcases val j a b with ⟨z, e1, e2⟩ | ⟨z, e1, e2⟩
    · rw [e1, e2, delF_lo z]
    · rw [e1, e2, delF_hi z]
