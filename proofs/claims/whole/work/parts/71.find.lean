/-! find, subkeyAt, list -/
section FIND
variable {Dc Dm : DD} {k e p n : Int}
theorem mE_div {j : Int} (h : MW Dm k) (h0 : 0 ≤ j) (h1 : j < sm (mc Dm k) (Rz 240 42 Dm k)) : (0 ≤ mE Dm k j ∧ mE Dm k j ≤ 100000000) ∧ mE Dm k j / 80 = rk (mn_ Dm k j) ∧ mE Dm k j % 80 = me Dm k j := by
  have hb := h.ebd h0 h1
  obtain ⟨a, b⟩ := h.2.2.1 j h0 h1
  have := rk_bd a
  refine ⟨hb, ?_, ?_⟩
  · unfold mE; omega
  · unfold mE; omega
theorem MW.uniq (h : MW Dm k) {i j : Int} (i0 : 0 ≤ i) (i1 : i < sm (mc Dm k) (Rz 240 42 Dm k)) (j0 : 0 ≤ j) (j1 : j < sm (mc Dm k) (Rz 240 42 Dm k)) (e : mn_ Dm k i = mn_ Dm k j) : i = j := by
  by_cases g : i < j
  · have := h.2.2.2 i j i0 g j1
    rw [e] at this; omega
  · by_cases g2 : j < i
    · have := h.2.2.2 j i j0 g2 i1
      rw [e] at this; omega
    · omega
theorem leaf_in (hn : Rz 240 42 Dm k = n) (hL : LC (Rz 1024 4 Dc) (Rz 1024 3 Dc) (Rz 1024 4 Dc (p + 2)) n (ml Dm k) (mc Dm k) (mE Dm k) (Rz 240 43 Dm k)) (hW : MW Dm k) (hT : Til (Rz 1024 3 Dc) e) (he : e ≤ 1024) (hp : 0 ≤ p ∧ p ≤ 1020) {i : Int} (i0 : 0 ≤ i) (i1 : i < n) : 0 ≤ sm (mc Dm k) i ∧ sm (mc Dm k) i + mc Dm k i ≤ sm (mc Dm k) n := by
  subst hn
  exact ⟨(hW.tot i0 (by omega)).1, hW.step i0 i1 (Int.le_refl _)⟩
theorem keyInLeaf_c (hn : Rz 240 42 Dm k = n) (hL : LC (Rz 1024 4 Dc) (Rz 1024 3 Dc) (Rz 1024 4 Dc (p + 2)) n (ml Dm k) (mc Dm k) (mE Dm k) (Rz 240 43 Dm k)) (hW : MW Dm k) (hT : Til (Rz 1024 3 Dc) e) (he : e ≤ 1024) (hp : 0 ≤ p ∧ p ≤ 1020) {i x r : Int} (i0 : 0 ≤ i) (i1 : i < n) (hx : 0 ≤ x ∧ x ≤ 9999) (hr : (r = -1 ∧ ∀ j, 0 ≤ j → j < mc Dm k i → mn_ Dm k (sm (mc Dm k) i + j) ≠ x) ∨ (0 ≤ r ∧ r < mc Dm k i ∧ mn_ Dm k (sm (mc Dm k) i + r) = x)) :
    pL_keyInLeaf (ml Dm k i) x Dc = okR (if r = -1 then -1 else me Dm k (sm (mc Dm k) i + r)) Dc := by
  obtain ⟨s0, s1⟩ := leaf_in hn hL hW hT he hp i0 i1
  obtain ⟨l1, l2, l3, l4⟩ := hL.2.2.1 i i0 i1
  have lp := hL.pos hT he i0 i1
  have loop : ∀ (f : Nat) (j : Int), 0 ≤ j → j ≤ mc Dm k i → (r = -1 ∨ j ≤ r) → (mc Dm k i - j).toNat < f → pL_keyInLeaf_12 (ml Dm k i) x (mc Dm k i) f j Dc (fun x2 D1 => okR (Int.tmod (w32 x2) 80) D1) = okR (if r = -1 then -1 else me Dm k (sm (mc Dm k) i + r)) Dc := by
    intro f
    induction f with
    | zero => intro j b1 b2 b3 b4; omega
    | succ f ih =>
      intro j b1 b2 b3 b4
      rw [pL_keyInLeaf_12, w32_of (z := j) (by omega), w32_of (z := mc Dm k i) (by omega)]
      by_cases g : j < mc Dm k i
      · obtain ⟨m1, m2, m3⟩ := mE_div (j := sm (mc Dm k) i + j) hW (by omega) (by rw [hn]; omega)
        obtain ⟨w1, w2⟩ := hW.2.2.1 (sm (mc Dm k) i + j) (by omega) (by rw [hn]; omega)
        rw [if_pos g]
        simp only [ltR]
        rw [item_c hL hT he i0 i1 b1 g, w32_of (z := mE Dm k (sm (mc Dm k) i + j)) (by omega), tdiv_pos m1.1, m2, rank_c hx, w32_of (z := rk (mn_ Dm k (sm (mc Dm k) i + j))) (by have := rk_bd w1; omega), w32_of (z := rk x) (by have := rk_bd hx; omega), tmod_pos m1.1, m3]
        by_cases q : mn_ Dm k (sm (mc Dm k) i + j) = x
        · rw [if_pos (by rw [q])]
          rcases hr with ⟨q1, q2⟩ | ⟨q1, q2, q3⟩
          · exact absurd q (q2 j b1 g)
          · have := hW.uniq (i := sm (mc Dm k) i + j) (j := sm (mc Dm k) i + r) (by omega) (by rw [hn]; omega) (by omega) (by rw [hn]; omega) (q.trans q3.symm)
            rw [if_neg (by omega), show j = r by omega]
        · rw [if_neg (fun z => q (rk_inj w1 hx z))]
          refine ih (j + 1) (by omega) (by omega) ?_ (by omega)
          rcases hr with ⟨q1, q2⟩ | ⟨q1, q2, q3⟩
          · exact Or.inl q1
          · right
            have : j ≠ r := fun z => q (by rw [z]; exact q3)
            omega
      · rw [if_neg g]
        rcases hr with ⟨q1, q2⟩ | ⟨q1, q2, q3⟩
        · rw [if_pos q1]
        · omega
  unfold pL_keyInLeaf
  simp only [ltR]
  rw [itemCount_c hL hT he i0 i1]
  exact loop fu 0 (by omega) (by omega) (by rcases hr with ⟨q, -⟩ | ⟨q, -⟩ <;> omega) (fu_gt (by omega))
theorem subkeyNamed_c (hn : Rz 240 42 Dm k = n) (hL : LC (Rz 1024 4 Dc) (Rz 1024 3 Dc) (Rz 1024 4 Dc (p + 2)) n (ml Dm k) (mc Dm k) (mE Dm k) (Rz 240 43 Dm k)) (hW : MW Dm k) (hT : Til (Rz 1024 3 Dc) e) (he : e ≤ 1024) (hp : 0 ≤ p ∧ p ≤ 1020) {x r : Int} (hx : 0 ≤ x ∧ x ≤ 9999) (hr : (r = -1 ∧ ∀ j, 0 ≤ j → j < sm (mc Dm k) n → mn_ Dm k j ≠ x) ∨ (0 ≤ r ∧ r < sm (mc Dm k) n ∧ mn_ Dm k r = x)) : pL_subkeyNamed p x Dc = okR (if r = -1 then -1 else me Dm k r) Dc := by
  have n8 := hL.1
  have loop : ∀ (f : Nat) (i : Int), 0 ≤ i → i ≤ n → (r = -1 ∨ sm (mc Dm k) i ≤ r) → (n - i).toNat < f → pL_subkeyNamed_9 p x n f i Dc = okR (if r = -1 then -1 else me Dm k r) Dc := by
    intro f
    induction f with
    | zero => intro i b1 b2 b3 b4; omega
    | succ f ih =>
      intro i b1 b2 b3 b4
      rw [pL_subkeyNamed_9, w32_of (z := i) (by omega), w32_of (z := n) (by omega)]
      by_cases g : i < n
      · obtain ⟨s0, s1⟩ := leaf_in hn hL hW hT he hp b1 g
        rw [if_pos g, leafNumbered_c hL hT he hp rfl b1 g]
        by_cases q : r ≠ -1 ∧ r < sm (mc Dm k) i + mc Dm k i
        · have hrr : mn_ Dm k r = x ∧ 0 ≤ r := by
            rcases hr with ⟨q1, -⟩ | ⟨q1, q2, q3⟩
            · exact absurd q1 q.1
            · exact ⟨q3, q1⟩
          have hs : sm (mc Dm k) i ≤ r := by rcases b3 with z | z <;> omega
          rw [keyInLeaf_c hn hL hW hT he hp (r := r - sm (mc Dm k) i) b1 g hx (Or.inr ⟨by omega, by omega, by rw [show sm (mc Dm k) i + (r - sm (mc Dm k) i) = r by omega]; exact hrr.1⟩), if_neg (show ¬ r - sm (mc Dm k) i = -1 by omega), bnd_ok, show sm (mc Dm k) i + (r - sm (mc Dm k) i) = r by omega]
          have hb := (hW.2.2.1 r hrr.2 (by rw [hn]; rcases hr with ⟨q1, -⟩ | ⟨q1, q2, -⟩ <;> omega)).2
          rw [w32_of (z := me Dm k r) (by omega), if_neg (show ¬ me Dm k r = -1 by omega), if_neg (show ¬ r = -1 by omega)]
        · rw [keyInLeaf_c hn hL hW hT he hp (r := -1) b1 g hx (Or.inl ⟨rfl, fun j c1 c2 c3 => by
            rcases hr with ⟨q1, q2⟩ | ⟨q1, q2, q3⟩
            · exact q2 (sm (mc Dm k) i + j) (by omega) (by omega) c3
            · have := hW.uniq (i := sm (mc Dm k) i + j) (j := r) (by omega) (by rw [hn]; omega) (by omega) (by rw [hn]; omega) (c3.trans q3.symm)
              omega⟩), bnd_ok, if_pos rfl, w32_m1, if_pos rfl]
          refine ih (i + 1) (by omega) (by omega) ?_ (by omega)
          rw [sm_s b1]
          omega
      · have : i = n := by omega
        subst this
        rw [if_neg g]
        rcases hr with ⟨q1, q2⟩ | ⟨q1, q2, q3⟩
        · rw [if_pos q1]
        · omega
  unfold pL_subkeyNamed
  simp only [ltR]
  rw [leafCount_c hL hT he hp rfl]
  refine loop fu 0 (by omega) n8.1 ?_ (fu_gt (by omega))
  rw [sm_0]
  rcases hr with ⟨q, -⟩ | ⟨q, -⟩ <;> omega
theorem subkeyNumbered_c (hn : Rz 240 42 Dm k = n) (hL : LC (Rz 1024 4 Dc) (Rz 1024 3 Dc) (Rz 1024 4 Dc (p + 2)) n (ml Dm k) (mc Dm k) (mE Dm k) (Rz 240 43 Dm k)) (hW : MW Dm k) (hT : Til (Rz 1024 3 Dc) e) (he : e ≤ 1024) (hp : 0 ≤ p ∧ p ≤ 1020) {t : Int} (ht : 0 ≤ t ∧ t < sm (mc Dm k) n) : pL_subkeyNumbered p t Dc = okR (me Dm k t) Dc := by
  have n8 := hL.1
  have n32 := hL.tot (i := n) (by omega) (by omega)
  have loop : ∀ (f : Nat) (i : Int), 0 ≤ i → i ≤ n → sm (mc Dm k) i ≤ t → (n - i).toNat < f → pL_subkeyNumbered_12 p n f (t - sm (mc Dm k) i) i Dc (fun x2 x3 D1 => okR (Int.tmod (w32 (pI_item x3 x2 D1)) 80) D1) = okR (me Dm k t) Dc := by
    intro f
    induction f with
    | zero => intro i b1 b2 b3 b4; omega
    | succ f ih =>
      intro i b1 b2 b3 b4
      have gi : i < n := by
        by_cases z : i = n
        · subst z; omega
        · omega
      obtain ⟨s0, s1⟩ := leaf_in hn hL hW hT he hp b1 gi
      have c4 := (hL.2.2.1 i b1 gi).2.2.1
      rw [pL_subkeyNumbered_12, w32_of (z := i) (by omega), w32_of (z := n) (by omega), if_pos gi]
      simp only [ltR]
      rw [leafNumbered_c hL hT he hp rfl b1 gi, itemCount_c hL hT he b1 gi, w32_of (z := t - sm (mc Dm k) i) (by omega), w32_of (z := mc Dm k i) (by omega)]
      by_cases q : t - sm (mc Dm k) i < mc Dm k i
      · obtain ⟨m1, m2, m3⟩ := mE_div (j := t) hW ht.1 (by rw [hn]; exact ht.2)
        rw [if_pos q, item_c hL hT he b1 gi (by omega) q, show sm (mc Dm k) i + (t - sm (mc Dm k) i) = t by omega, w32_of (by omega), tmod_pos m1.1, m3]
      · rw [if_neg q]
        have := ih (i + 1) (by omega) (by omega) (by rw [sm_s b1]; omega) (by omega)
        rw [sm_s b1] at this
        rw [show t - sm (mc Dm k) i - mc Dm k i = t - (sm (mc Dm k) i + mc Dm k i) by omega]
        exact this
  unfold pL_subkeyNumbered
  simp only [ltR]
  rw [leafCount_c hL hT he hp rfl]
  have := loop fu 0 (by omega) n8.1 (by rw [sm_0]; exact ht.1) (fu_gt (by omega))
  rw [sm_0, Int.sub_zero] at this
  exact this
end FIND
