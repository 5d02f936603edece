/-! dirty sectors: bits of a long in the class, a row of booleans in the reference -/
def bit (x t : Int) : Bool := (Int64.ofInt x).toBitVec.getLsbD t.toNat
theorem bit_lor (a b t : Int) : bit (lorZ a b) t = (bit a t || bit b t) := by
  unfold bit lorZ
  rw [Int64.ofInt_toInt, Int64.toBitVec_or, BitVec.getLsbD_or]
theorem bit_lshl_k : ∀ k : Fin 64, ∀ t : Fin 64, bit (lshlZ 1 ((k : Nat) : Int)) ((t : Nat) : Int) = decide (t = k) := by decide +kernel
theorem bit_lshl {k t : Int} (hk : 0 ≤ k ∧ k < 64) (ht : 0 ≤ t ∧ t < 64) : bit (lshlZ 1 k) t = decide (t = k) := by
  have h := bit_lshl_k ⟨k.toNat, by omega⟩ ⟨t.toNat, by omega⟩
  simp only [Int.toNat_of_nonneg hk.1, Int.toNat_of_nonneg ht.1] at h
  rw [h]
  by_cases g : t = k
  · subst g
    simp
  · rw [decide_eq_false g, decide_eq_false (fun q => g (by
      have := congrArg Fin.val q
      simp only at this
      omega))]
def sec (p n t : Int) : Prop := p / 16 ≤ t ∧ t ≤ (p + n - 1) / 16
/-- sectors are marked in the class -/
def Mk (D D' : DD) (P : Int → Prop) : Prop := (∀ b, b ≠ 7 → D' b = D b) ∧ (∀ k, k ≠ 5 → D' 7 k = D 7 k) ∧ ∀ t, 0 ≤ t → t < 64 → (bit (D' 7 5) t = true ↔ bit (D 7 5) t = true ∨ P t)
/-- and in the reference -/
def Mm (D D' : DD) (P : Int → Prop) : Prop := (∀ b, b ≠ 58 → D' b = D b) ∧ ∀ t, 0 ≤ t → t < 64 → (w32 (Rz 64 58 D' t) ≠ 0 ↔ w32 (Rz 64 58 D t) ≠ 0 ∨ P t)
theorem Mk.trans {D D1 D2 : DD} {P Q : Int → Prop} (h : Mk D D1 P) (g : Mk D1 D2 Q) : Mk D D2 (fun t => P t ∨ Q t) :=
  ⟨fun b hb => (g.1 b hb).trans (h.1 b hb), fun k hk => (g.2.1 k hk).trans (h.2.1 k hk), fun t a b => by rw [g.2.2 t a b, h.2.2 t a b, or_assoc]⟩
theorem Mm.trans {D D1 D2 : DD} {P Q : Int → Prop} (h : Mm D D1 P) (g : Mm D1 D2 Q) : Mm D D2 (fun t => P t ∨ Q t) :=
  ⟨fun b hb => (g.1 b hb).trans (h.1 b hb), fun t a b => by rw [g.2 t a b, h.2 t a b, or_assoc]⟩
theorem Mk.iff {D D' : DD} {P Q : Int → Prop} (h : Mk D D' P) (hPQ : ∀ t, 0 ≤ t → t < 64 → (P t ↔ Q t)) : Mk D D' Q := ⟨h.1, h.2.1, fun t a b => by rw [h.2.2 t a b, hPQ t a b]⟩
theorem Mm.iff {D D' : DD} {P Q : Int → Prop} (h : Mm D D' P) (hPQ : ∀ t, 0 ≤ t → t < 64 → (P t ↔ Q t)) : Mm D D' Q := ⟨h.1, fun t a b => by rw [h.2 t a b, hPQ t a b]⟩
theorem Mk.none (D : DD) : Mk D D (fun _ => False) := ⟨fun _ _ => rfl, fun _ _ => rfl, fun t _ _ => by simp⟩
theorem Mm.none (D : DD) : Mm D D (fun _ => False) := ⟨fun _ _ => rfl, fun t _ _ => by simp⟩
theorem mark_loop {b : Int} (hb : b < 64) : ∀ (f : Nat) (a : Int) (D : DD), 0 ≤ a → a ≤ b + 1 → (b + 1 - a).toNat < f → ∃ D', pC_markWritten_24 b f a D = okR 0 D' ∧ Mk D D' (fun t => a ≤ t ∧ t ≤ b) := by
  intro f
  induction f with
  | zero => intro a D h1 h2 h3; omega
  | succ f ih =>
    intro a D h1 h2 h3
    rw [pC_markWritten_24, w32_of (z := b) (by omega), w32_of (z := a) (by omega)]
    by_cases g : b < a
    · rw [if_pos g]
      refine ⟨D, rfl, (Mk.none D).iff (fun t _ _ => ?_)⟩
      constructor
      · exact False.elim
      · intro q; omega
    · rw [if_neg g]
      simp only [gD]
      obtain ⟨D', e1, e2⟩ := ih (a + 1) (up2 D 7 5 (lorZ (D 7 5) (lshlZ 1 a))) (by omega) (by omega) (by omega)
      refine ⟨D', e1, fun c hc => (e2.1 c hc).trans (up2_ot hc), fun k hk => (e2.2.1 k hk).trans (up2_nk hk), fun t h4 h5 => ?_⟩
      rw [e2.2.2 t h4 h5, up2_eq, bit_lor, bit_lshl ⟨h1, by omega⟩ ⟨h4, h5⟩, Bool.or_eq_true, decide_eq_true_eq]
      constructor
      · rintro ((q | q) | q)
        · exact Or.inl q
        · exact Or.inr (by omega)
        · exact Or.inr (by omega)
      · rintro (q | q)
        · exact Or.inl (Or.inl q)
        · by_cases q2 : t = a
          · exact Or.inl (Or.inr q2)
          · exact Or.inr (by omega)
theorem mark_class {D : DD} {p n : Int} (hn : Rz 1024 3 D p = n) (h1 : 1 ≤ n) (h2 : 0 ≤ p) (h3 : p + n ≤ 1024) : ∃ D', pC_markWritten p D = okR 0 D' ∧ Mk D D' (sec p n) := by
  unfold pC_markWritten
  simp only [ltR]
  rw [rd_R (by omega), hn, w32_of (z := p + n - 1) (by omega), w32_of (z := p) (by omega), tdiv_pos (by omega), tdiv_pos (by omega)]
  exact mark_loop (by omega) fu (p / 16) D (by omega) (by omega) (fu_gt (by omega))
theorem wmark_loop {p n : Int} (h0 : 0 ≤ p) (hb : p + n ≤ 1024) : ∀ (f : Nat) (a : Int) (D : DD), p ≤ a → a ≤ p + n → (p + n - a).toNat < f → ∃ D', pM_writes_28 p n f a D = okR 0 D' ∧ Mm D D' (fun t => a < p + n ∧ a / 16 ≤ t ∧ t ≤ (p + n - 1) / 16) := by
  intro f
  induction f with
  | zero => intro a D h1 h2 h3; omega
  | succ f ih =>
    intro a D h1 h2 h3
    rw [pM_writes_28, w32_of (z := a) (by omega), w32_of (z := p + n) (by omega)]
    by_cases g : a < p + n
    · rw [if_pos g, tdiv_pos (by omega), wrZ_T ⟨by omega, by omega, by decide⟩ (Or.inr rfl)]
      obtain ⟨D', e1, e2⟩ := ih (a + 1) (Tz 64 58 D (a / 16) 1) (by omega) (by omega) (by omega)
      refine ⟨D', e1, fun c hc => (e2.1 c hc).trans (T_ot hc), fun t h4 h5 => ?_⟩
      rw [e2.2 t h4 h5, R_T]
      by_cases q : t = a / 16
      · rw [if_pos ⟨⟨by omega, by omega⟩, q⟩]
        constructor
        · intro _
          exact Or.inr (by omega)
        · intro _
          exact Or.inl (by decide)
      · rw [if_neg (fun z => q z.2)]
        constructor
        · rintro (w | w)
          · exact Or.inl w
          · exact Or.inr (by omega)
        · rintro (w | w)
          · exact Or.inl w
          · exact Or.inr (by omega)
    · rw [if_neg g]
      refine ⟨D, rfl, (Mm.none D).iff (fun t _ _ => ?_)⟩
      constructor
      · exact False.elim
      · intro q; omega
theorem mark_model {D : DD} {p n : Int} (hn : Rz 3072 33 D p = n) (h1 : 1 ≤ n) (h2 : 0 ≤ p) (h3 : p + n ≤ 1024) : ∃ D', pM_writes p D = okR 0 D' ∧ Mm D D' (sec p n) := by
  unfold pM_writes
  simp only [jnR]
  rw [rdA_R ⟨h2, by omega, by decide⟩, rdA_R ⟨h2, by omega, by decide⟩, rdA_R ⟨h2, by omega, by decide⟩, hn, w32_of (z := n) (by omega), if_neg (by omega)]
  obtain ⟨D', e1, e2⟩ := wmark_loop h2 h3 fu p D (by omega) (by omega) (fu_gt (by omega))
  refine ⟨D', e1, e2.iff (fun t _ _ => ?_)⟩
  unfold sec
  constructor
  · intro q; exact q.2
  · intro q; exact ⟨by omega, q⟩
