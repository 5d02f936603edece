/-! an entry comes into a list of the reference -/
/-- what a list's own acts may change -/
def Lk (D D' : DD) (k : Int) : Prop := (∀ b, b ∉ [42, 43, 44, 45, 46, 47, 58] → D' b = D b) ∧ HiEq D D' ∧ (∀ i, i ≠ k → Rz 240 42 D' i = Rz 240 42 D i ∧ Rz 240 43 D' i = Rz 240 43 D i) ∧
  (∀ i, (i < 8 * k ∨ 8 * k + 8 ≤ i) → Rz 1920 44 D' i = Rz 1920 44 D i ∧ Rz 1920 45 D' i = Rz 1920 45 D i) ∧ (∀ i, (i < 32 * k ∨ 32 * k + 32 ≤ i) → Rz 7680 46 D' i = Rz 7680 46 D i ∧ Rz 7680 47 D' i = Rz 7680 47 D i)
theorem Lk.rf (D : DD) (k : Int) : Lk D D k := ⟨fun _ _ => rfl, HiEq.rf D, fun _ _ => ⟨rfl, rfl⟩, fun _ _ => ⟨rfl, rfl⟩, fun _ _ => ⟨rfl, rfl⟩⟩
theorem Lk.trans {D D1 D2 : DD} {k : Int} (h : Lk D D1 k) (g : Lk D1 D2 k) : Lk D D2 k :=
  ⟨fun b hb => (g.1 b hb).trans (h.1 b hb), h.2.1.trans g.2.1, fun i hi => ⟨(g.2.2.1 i hi).1.trans (h.2.2.1 i hi).1, (g.2.2.1 i hi).2.trans (h.2.2.1 i hi).2⟩,
    fun i hi => ⟨(g.2.2.2.1 i hi).1.trans (h.2.2.2.1 i hi).1, (g.2.2.2.1 i hi).2.trans (h.2.2.2.1 i hi).2⟩, fun i hi => ⟨(g.2.2.2.2 i hi).1.trans (h.2.2.2.2 i hi).1, (g.2.2.2.2 i hi).2.trans (h.2.2.2.2 i hi).2⟩⟩
theorem Lk.of58 {D D' : DD} {k : Int} {P : Int → Prop} (h : Mm D D' P) : Lk D D' k :=
  ⟨fun b hb => h.1 b (nin hb (by decide)), HiEq.ot (fun b _ _ => h.1 b (by omega)), fun i _ => ⟨R_cg (h.1 42 (by decide)) i, R_cg (h.1 43 (by decide)) i⟩, fun i _ => ⟨R_cg (h.1 44 (by decide)) i, R_cg (h.1 45 (by decide)) i⟩, fun i _ => ⟨R_cg (h.1 46 (by decide)) i, R_cg (h.1 47 (by decide)) i⟩⟩
theorem Lk.T240 {D : DD} {k v : Int} {a : Nat} (ha : a = 42 ∨ a = 43) (hk : 0 ≤ k ∧ k < 80) : Lk D (Tz 240 a D k v) k := by
  have hl : lenA a = 80 := by rcases ha with rfl | rfl <;> rfl
  refine ⟨fun b hb => T_ot (by rcases ha with rfl | rfl <;> exact nin hb (by decide)), HiEq.T hl (by omega), fun i hi => ?_, fun i _ => ?_, fun i _ => ?_⟩
  · rcases ha with rfl | rfl
    · exact ⟨R_T_ne hi, R_T_ot (by decide)⟩
    · exact ⟨R_T_ot (by decide), R_T_ne hi⟩
  · rcases ha with rfl | rfl <;> exact ⟨R_T_ot (by decide), R_T_ot (by decide)⟩
  · rcases ha with rfl | rfl <;> exact ⟨R_T_ot (by decide), R_T_ot (by decide)⟩
theorem Lk.T1920 {D : DD} {k i v : Int} {a : Nat} (ha : a = 44 ∨ a = 45) (hk : 0 ≤ k ∧ k < 80) (hi : 8 * k ≤ i ∧ i < 8 * k + 8) : Lk D (Tz 1920 a D i v) k := by
  have hl : lenA a = 640 := by rcases ha with rfl | rfl <;> rfl
  refine ⟨fun b hb => T_ot (by rcases ha with rfl | rfl <;> exact nin hb (by decide)), HiEq.T hl (by omega), fun j _ => ?_, fun j hj => ?_, fun j _ => ?_⟩
  · rcases ha with rfl | rfl <;> exact ⟨R_T_ot (by decide), R_T_ot (by decide)⟩
  · rcases ha with rfl | rfl
    · exact ⟨R_T_ne (by omega), R_T_ot (by decide)⟩
    · exact ⟨R_T_ot (by decide), R_T_ne (by omega)⟩
  · rcases ha with rfl | rfl <;> exact ⟨R_T_ot (by decide), R_T_ot (by decide)⟩
theorem Lk.T7680 {D : DD} {k i v : Int} {a : Nat} (ha : a = 46 ∨ a = 47) (hk : 0 ≤ k ∧ k < 80) (hi : 32 * k ≤ i ∧ i < 32 * k + 32) : Lk D (Tz 7680 a D i v) k := by
  have hl : lenA a = 2560 := by rcases ha with rfl | rfl <;> rfl
  refine ⟨fun b hb => T_ot (by rcases ha with rfl | rfl <;> exact nin hb (by decide)), HiEq.T hl (by omega), fun j _ => ?_, fun j _ => ?_, fun j hj => ?_⟩
  · rcases ha with rfl | rfl <;> exact ⟨R_T_ot (by decide), R_T_ot (by decide)⟩
  · rcases ha with rfl | rfl <;> exact ⟨R_T_ot (by decide), R_T_ot (by decide)⟩
  · rcases ha with rfl | rfl
    · exact ⟨R_T_ne (by omega), R_T_ot (by decide)⟩
    · exact ⟨R_T_ot (by decide), R_T_ne (by omega)⟩
/-- marks, told of the row of booleans alone -/
def Mb (D D' : DD) (P : Int → Prop) : Prop := ∀ t, 0 ≤ t → t < 64 → (w32 (Rz 64 58 D' t) ≠ 0 ↔ w32 (Rz 64 58 D t) ≠ 0 ∨ P t)
theorem Mb.trans {D D1 D2 : DD} {P Q : Int → Prop} (h : Mb D D1 P) (g : Mb D1 D2 Q) : Mb D D2 (fun t => P t ∨ Q t) := fun t a b => by rw [g t a b, h t a b, or_assoc]
theorem Mb.iff {D D' : DD} {P Q : Int → Prop} (h : Mb D D' P) (hPQ : ∀ t, 0 ≤ t → t < 64 → (P t ↔ Q t)) : Mb D D' Q := fun t a b => by rw [h t a b, hPQ t a b]
theorem Mb.ot {D D' : DD} (h : D' 58 = D 58) : Mb D D' (fun _ => False) := fun t _ _ => by rw [R_cg h]; simp
section ENTERS
variable {k : Int}
theorem e88_loop (hk : 0 ≤ k ∧ k < 80) {D : DD} {x b t : Int} (hx : 0 ≤ x ∧ x ≤ 9999) (hb : 0 ≤ t ∧ t ≤ b ∧ b ≤ 32) {s : Int} (hs : 0 ≤ s ∧ s ≤ t) (hn : ∀ j, s ≤ j → j < b → 0 ≤ mn_ D k j ∧ mn_ D k j ≤ 9999) (h1 : ∀ j, s ≤ j → j < t → rk (mn_ D k j) < rk x) (h2 : t < b → ¬ rk (mn_ D k t) < rk x) :
    ∀ (f : Nat) (j : Int), s ≤ j → j ≤ t → (t - j).toNat < f → ∀ K, pM_enters_88 k x b f j D K = K t D := by
  intro f
  induction f with
  | zero => intro j b1 b2 b3; omega
  | succ f ih =>
    intro j b1 b2 b3 K
    rw [pM_enters_88, w32_of (z := j) (by omega), w32_of (z := b) (by omega)]
    by_cases g : j < b
    · have nb := hn j b1 g
      have r1 := rk_bd nb
      have r2 := rk_bd hx
      rw [if_pos g, rdA_R ⟨by omega, by omega, by decide⟩, show Rz 7680 47 D (32 * k + j) = mn_ D k j from rfl, rank_m nb, rank_m hx, w32_of (z := rk (mn_ D k j)) (by omega), w32_of (z := rk x) (by omega)]
      by_cases q : j < t
      · rw [if_pos (h1 j b1 q)]
        exact ih (j + 1) (by omega) (by omega) (by omega) K
      · have : j = t := by omega
        subst this
        rw [if_neg (h2 g)]
    · rw [if_neg g, show j = t by omega]
theorem e130_loop (hk : 0 ≤ k ∧ k < 80) {t N : Int} (ht : 0 ≤ t) (hN : N < 32) : ∀ (f : Nat) (j : Int) (D : DD), t ≤ j → j ≤ N → (j - t).toNat < f → ∃ D', (∀ K, pM_enters_130 k t f j D K = K D') ∧ Lk D D' k ∧ (∀ b, b ≠ 46 → b ≠ 47 → D' b = D b) ∧ (∀ i, 0 ≤ i → i < 32 → me D' k i = if t < i ∧ i ≤ j then me D k (i - 1) else me D k i) ∧ (∀ i, 0 ≤ i → i < 32 → mn_ D' k i = if t < i ∧ i ≤ j then mn_ D k (i - 1) else mn_ D k i) := by
  intro f
  induction f with
  | zero => intro j D b1 b2 b3; omega
  | succ f ih =>
    intro j D b1 b2 b3
    by_cases g : t < j
    · obtain ⟨D', e1, e2, e3, e4, e5⟩ := ih (j - 1) (Tz 7680 47 (Tz 7680 46 D (32 * k + j) (me D k (j - 1))) (32 * k + j) (mn_ D k (j - 1))) (by omega) (by omega) (by omega)
      have m46 : ∀ i, 0 ≤ i → i < 32 → me (Tz 7680 47 (Tz 7680 46 D (32 * k + j) (me D k (j - 1))) (32 * k + j) (mn_ D k (j - 1))) k i = if i = j then me D k (j - 1) else me D k i := fun i _ _ => by
        unfold me
        rw [R_T_ot (by decide), R_T]
        by_cases q : i = j
        · rw [if_pos ⟨⟨by omega, by omega⟩, by omega⟩, if_pos q]
        · rw [if_neg (fun z => q (by omega)), if_neg q]
      have m47 : ∀ i, 0 ≤ i → i < 32 → mn_ (Tz 7680 47 (Tz 7680 46 D (32 * k + j) (me D k (j - 1))) (32 * k + j) (mn_ D k (j - 1))) k i = if i = j then mn_ D k (j - 1) else mn_ D k i := fun i _ _ => by
        unfold mn_
        rw [R_T]
        by_cases q : i = j
        · rw [if_pos ⟨⟨by omega, by omega⟩, by omega⟩, if_pos q]
        · rw [if_neg (fun z => q (by omega)), if_neg q, R_T_ot (by decide)]
      refine ⟨D', fun K => ?_, ((Lk.T7680 (Or.inl rfl) hk (by omega)).trans (Lk.T7680 (Or.inr rfl) hk (by omega))).trans e2, fun b q1 q2 => by rw [e3 b q1 q2, T_ot q2, T_ot q1], fun i q1 q2 => ?_, fun i q1 q2 => ?_⟩
      · rw [pM_enters_130, w32_of (z := t) (by omega), w32_of (z := j) (by omega), if_pos g, rdA_R ⟨by omega, by omega, by decide⟩, wrA_T ⟨by omega, by omega, by decide⟩, rdA_R ⟨by omega, by omega, by decide⟩, wrA_T ⟨by omega, by omega, by decide⟩, R_T_ot (by decide)]
        have := e1 K
        unfold me mn_ at this
        rw [show 32 * k + j - 1 = 32 * k + (j - 1) by omega]
        exact this
      · rw [e4 i q1 q2]
        by_cases z : t < i ∧ i ≤ j - 1
        · rw [if_pos z, if_pos (by omega), m46 _ (by omega) (by omega), if_neg (by omega)]
        · rw [if_neg z, m46 i q1 q2]
          by_cases z2 : i = j
          · rw [if_pos z2, if_pos (by omega), z2]
          · rw [if_neg z2, if_neg (by omega)]
      · rw [e5 i q1 q2]
        by_cases z : t < i ∧ i ≤ j - 1
        · rw [if_pos z, if_pos (by omega), m47 _ (by omega) (by omega), if_neg (by omega)]
        · rw [if_neg z, m47 i q1 q2]
          by_cases z2 : i = j
          · rw [if_pos z2, if_pos (by omega), z2]
          · rw [if_neg z2, if_neg (by omega)]
    · refine ⟨D, fun K => ?_, Lk.rf D k, fun _ _ _ => rfl, fun i _ _ => ?_, fun i _ _ => ?_⟩
      · rw [pM_enters_130, w32_of (z := t) (by omega), w32_of (z := j) (by omega), if_neg g]
      · rw [if_neg (by omega)]
      · rw [if_neg (by omega)]
theorem e292_loop (hk : 0 ≤ k ∧ k < 80) {L : Int} (hL : 0 ≤ L) : ∀ (f : Nat) (j : Int) (D : DD), L + 1 ≤ j → j ≤ 7 → (j - L).toNat < f → ∃ D', (∀ K, pM_enters_292 k L f j D K = K D') ∧ Lk D D' k ∧ (∀ b, b ≠ 44 → b ≠ 45 → D' b = D b) ∧ (∀ i, 0 ≤ i → i < 8 → ml D' k i = if L + 1 < i ∧ i ≤ j then ml D k (i - 1) else ml D k i) ∧ (∀ i, 0 ≤ i → i < 8 → mc D' k i = if L + 1 < i ∧ i ≤ j then mc D k (i - 1) else mc D k i) := by
  intro f
  induction f with
  | zero => intro j D b1 b2 b3; omega
  | succ f ih =>
    intro j D b1 b2 b3
    by_cases g : L + 1 < j
    · obtain ⟨D', e1, e2, e3, e4, e5⟩ := ih (j - 1) (Tz 1920 45 (Tz 1920 44 D (8 * k + j) (ml D k (j - 1))) (8 * k + j) (mc D k (j - 1))) (by omega) (by omega) (by omega)
      have m44 : ∀ i, 0 ≤ i → i < 8 → ml (Tz 1920 45 (Tz 1920 44 D (8 * k + j) (ml D k (j - 1))) (8 * k + j) (mc D k (j - 1))) k i = if i = j then ml D k (j - 1) else ml D k i := fun i _ _ => by
        unfold ml
        rw [R_T_ot (by decide), R_T]
        by_cases q : i = j
        · rw [if_pos ⟨⟨by omega, by omega⟩, by omega⟩, if_pos q]
        · rw [if_neg (fun z => q (by omega)), if_neg q]
      have m45 : ∀ i, 0 ≤ i → i < 8 → mc (Tz 1920 45 (Tz 1920 44 D (8 * k + j) (ml D k (j - 1))) (8 * k + j) (mc D k (j - 1))) k i = if i = j then mc D k (j - 1) else mc D k i := fun i _ _ => by
        unfold mc
        rw [R_T]
        by_cases q : i = j
        · rw [if_pos ⟨⟨by omega, by omega⟩, by omega⟩, if_pos q]
        · rw [if_neg (fun z => q (by omega)), if_neg q, R_T_ot (by decide)]
      refine ⟨D', fun K => ?_, ((Lk.T1920 (Or.inl rfl) hk (by omega)).trans (Lk.T1920 (Or.inr rfl) hk (by omega))).trans e2, fun b q1 q2 => by rw [e3 b q1 q2, T_ot q2, T_ot q1], fun i q1 q2 => ?_, fun i q1 q2 => ?_⟩
      · rw [pM_enters_292, w32_of (z := L + 1) (by omega), w32_of (z := j) (by omega), if_pos g, rdA_R ⟨by omega, by omega, by decide⟩, wrA_T ⟨by omega, by omega, by decide⟩, rdA_R ⟨by omega, by omega, by decide⟩, wrA_T ⟨by omega, by omega, by decide⟩, R_T_ot (by decide)]
        have := e1 K
        unfold ml mc at this
        rw [show 8 * k + j - 1 = 8 * k + (j - 1) by omega]
        exact this
      · rw [e4 i q1 q2]
        by_cases z : L + 1 < i ∧ i ≤ j - 1
        · rw [if_pos z, if_pos (by omega), m44 _ (by omega) (by omega), if_neg (by omega)]
        · rw [if_neg z, m44 i q1 q2]
          by_cases z2 : i = j
          · rw [if_pos z2, if_pos (by omega), z2]
          · rw [if_neg z2, if_neg (by omega)]
      · rw [e5 i q1 q2]
        by_cases z : L + 1 < i ∧ i ≤ j - 1
        · rw [if_pos z, if_pos (by omega), m45 _ (by omega) (by omega), if_neg (by omega)]
        · rw [if_neg z, m45 i q1 q2]
          by_cases z2 : i = j
          · rw [if_pos z2, if_pos (by omega), z2]
          · rw [if_neg z2, if_neg (by omega)]
    · refine ⟨D, fun K => ?_, Lk.rf D k, fun _ _ _ => rfl, fun i _ _ => ?_, fun i _ _ => ?_⟩
      · rw [pM_enters_292, w32_of (z := L + 1) (by omega), w32_of (z := j) (by omega), if_neg g]
      · rw [if_neg (by omega)]
      · rw [if_neg (by omega)]
end ENTERS
/-- the last part: the key is marked -/
noncomputable def entEnd (p1 : Int) (D12 : DD) : Res := rdA 240 40 p1 D12 fun v9 => bnd (pM_writes v9 D12) fun _ D13 => okR 0 D13
/-- the leaf behind comes in -/
noncomputable def entSplit (p1 v1 p4 : Int) (D11 : DD) : Res :=
  rdA 240 42 p1 D11 fun v10 =>
  jnR (fun (x3 : Int) (D14 : DD) =>
      rdA 240 42 p1 D14 fun v11 =>
      pM_enters_292 p1 v1 fu v11 D14 fun D15 =>
        rdA 8 66 x3 D15 fun v12 =>
        wrA 1920 44 (((8 * p1) + v1) + 1) v12 D15 fun D16 =>
        wrA 1920 45 (((8 * p1) + v1) + 1) 2 D16 fun D17 =>
        wrA 1920 45 ((8 * p1) + v1) 3 D17 fun D18 =>
        rdA 240 42 p1 D18 fun v13 =>
        wrA 240 42 p1 (v13 + 1) D18 fun D19 =>
        rdA 240 43 p1 D19 fun v14 =>
        bnd (pM_writes v14 D19) fun _ D20 =>
        entEnd p1 D20) fun J3 =>
  if (w32 v10) = 1 then (
    rdA 8 66 p4 D11 fun v15 =>
    wrA 240 43 p1 v15 D11 fun D21 =>
    J3 (p4 + 1) D21
  ) else (
    J3 p4 D11
  )
noncomputable def entTail (p1 p2 p3 p4 v1 v2 : Int) (D3 : DD) : Res :=
  bnd (pM_start p1 v1 D3) fun v4 D4 =>
  rdA 1920 45 ((8 * p1) + v1) D4 fun v5 =>
  ltR (v4 + v5) fun x1 =>
  pM_enters_88 p1 p3 x1 fu v4 D4 fun x2 D5 =>
    bnd (pM_entries p1 D5) fun v6 D6 =>
    pM_enters_130 p1 x2 fu v6 D6 fun D7 =>
      wrA 7680 46 ((32 * p1) + x2) p2 D7 fun D8 =>
      wrA 7680 47 ((32 * p1) + x2) p3 D8 fun D9 =>
      rdA 1920 45 ((8 * p1) + v1) D9 fun v7 =>
      wrA 1920 45 ((8 * p1) + v1) (v7 + 1) D9 fun D10 =>
      rdA 1920 44 ((8 * p1) + v1) D10 fun v8 =>
      bnd (pM_writes v8 D10) fun _ D11 =>
      if (w32 v2) = 0 then entEnd p1 D11 else entSplit p1 v1 p4 D11
theorem enters_eq (p1 p2 p3 p4 : Int) (D : DD) : pM_enters p1 p2 p3 p4 D = bnd (pM_leafFor p1 p3 D) fun v1 D1 => bnd (pM_isSplit p1 p3 D1) fun v2 D2 => rdA 240 42 p1 D2 fun v3 =>
    if (w32 v3) = 0 then (
      wrA 240 42 p1 1 D2 fun D22 =>
      rdA 8 66 p4 D22 fun v16 =>
      wrA 1920 44 (8 * p1) v16 D22 fun D23 =>
      wrA 1920 45 (8 * p1) 0 D23 fun D24 =>
      entTail p1 p2 p3 p4 v1 v2 D24
    ) else entTail p1 p2 p3 p4 v1 v2 D2 := rfl
