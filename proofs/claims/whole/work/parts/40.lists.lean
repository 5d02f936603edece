/-! sums; a list of subkeys in the class: n leaves at lp, of c entries each, E the entries in their order, ix the index -/
def smN (f : Int → Int) : Nat → Int
  | 0 => 0
  | n + 1 => smN f n + f (n : Int)
def sm (f : Int → Int) (i : Int) : Int := smN f i.toNat
theorem sm_0 (f : Int → Int) : sm f 0 = 0 := rfl
theorem sm_s {f : Int → Int} {i : Int} (h : 0 ≤ i) : sm f (i + 1) = sm f i + f i := by
  unfold sm
  rw [show (i + 1).toNat = i.toNat + 1 by omega, smN, Int.toNat_of_nonneg h]
theorem sm_p {f : Int → Int} {i : Int} (h : 1 ≤ i) : sm f i = sm f (i - 1) + f (i - 1) := by
  have := sm_s (f := f) (i := i - 1) (by omega)
  rw [show i - 1 + 1 = i by omega] at this
  exact this
theorem smN_cong {f g : Int → Int} : ∀ {n : Nat}, (∀ j : Int, 0 ≤ j → j < n → f j = g j) → smN f n = smN g n
  | 0, _ => rfl
  | n + 1, h => by rw [smN, smN, smN_cong (n := n) (fun j a b => h j a (by omega)), h n (by omega) (by omega)]
theorem sm_cong {f g : Int → Int} {i : Int} (h : ∀ j, 0 ≤ j → j < i → f j = g j) : sm f i = sm g i := smN_cong (fun j a b => h j a (by omega))
theorem sm_mono {f : Int → Int} {i : Int} (hi : 0 ≤ i) : ∀ (n : Nat) (j : Int), j = i + n → (∀ k, i ≤ k → k < j → 0 ≤ f k) → sm f i ≤ sm f j := by
  intro n
  induction n with
  | zero =>
    intro j hj _
    rw [show j = i by omega]
    exact Int.le_refl _
  | succ n ih =>
    intro j hj hf
    have h1 := ih (j - 1) (by omega) (fun k a b => hf k a (by omega))
    have h2 := sm_p (f := f) (i := j) (by omega)
    have h3 := hf (j - 1) (by omega) (by omega)
    omega
theorem sm_le {f : Int → Int} {i j : Int} (hi : 0 ≤ i) (hij : i ≤ j) (hf : ∀ k, i ≤ k → k < j → 0 ≤ f k) : sm f i ≤ sm f j := sm_mono hi (j - i).toNat j (by omega) hf
theorem sm_step {f : Int → Int} {i j : Int} (hi : 0 ≤ i) (hij : i < j) (hf : ∀ k, i ≤ k → k < j → 0 ≤ f k) : sm f i + f i ≤ sm f j := by
  have h1 := sm_le (f := f) (i := i + 1) (j := j) (by omega) (by omega) (fun k a b => hf k (by omega) b)
  rw [sm_s hi] at h1
  exact h1
theorem sm_bd {f : Int → Int} {b : Int} (hb : 0 ≤ b) : ∀ (n : Nat) (j : Int), j = n → (∀ k, 0 ≤ k → k < j → 0 ≤ f k ∧ f k ≤ b) → 0 ≤ sm f j ∧ sm f j ≤ b * j := by
  intro n
  induction n with
  | zero =>
    intro j hj _
    rw [show j = 0 by omega, sm_0]
    simp
  | succ n ih =>
    intro j hj hf
    have h1 := ih (j - 1) (by omega) (fun k a c => hf k a (by omega))
    have h2 := sm_p (f := f) (i := j) (by omega)
    have h3 := hf (j - 1) (by omega) (by omega)
    have h4 : b * (j - 1) = b * j - b := by rw [Int.mul_sub, Int.mul_one]
    omega
/-- the part in which a place lies -/
theorem sm_find {f : Int → Int} : ∀ (n : Nat) (j at_ : Int), j = n → 0 ≤ at_ → at_ < sm f j → ∃ L, 0 ≤ L ∧ L < j ∧ sm f L ≤ at_ ∧ at_ < sm f L + f L := by
  intro n
  induction n with
  | zero =>
    intro j at_ hj h0 h1
    rw [show j = 0 by omega, sm_0] at h1
    omega
  | succ n ih =>
    intro j at_ hj h0 h1
    have h2 := sm_p (f := f) (i := j) (by omega)
    by_cases g : at_ < sm f (j - 1)
    · obtain ⟨L, a, b, c, d⟩ := ih (j - 1) at_ (by omega) h0 g
      exact ⟨L, a, by omega, c, d⟩
    · exact ⟨j - 1, by omega, by omega, by omega, by omega⟩
def LC (un sz : Int → Int) (hd n : Int) (lp c E : Int → Int) (ix : Int) : Prop :=
  (0 ≤ n ∧ n ≤ 8) ∧ hd = (if n = 0 then 0 else if n = 1 then lp 0 else ix) ∧
  (∀ i, 0 ≤ i → i < n → sz (lp i) = 5 ∧ un (lp i) = c i ∧ (1 ≤ c i ∧ c i ≤ 4) ∧ ∀ j, 0 ≤ j → j < c i → un (lp i + 1 + j) = E (sm c i + j)) ∧
  (2 ≤ n → sz ix = 9 ∧ un ix = n ∧ ∀ i, 0 ≤ i → i < n → un (ix + 1 + i) = lp i)
section LISTS
variable {D : DD} {e p hd n ix : Int} {lp c E : Int → Int}
theorem LC.pos (h : LC (Rz 1024 4 D) (Rz 1024 3 D) hd n lp c E ix) (hT : Til (Rz 1024 3 D) e) (he : e ≤ 1024) {i : Int} (h0 : 0 ≤ i) (h1 : i < n) : 4 ≤ lp i ∧ lp i + 5 ≤ 1024 := by
  have := (h.2.2.1 i h0 h1).1
  have := hT.1 (lp i) (by omega)
  omega
theorem LC.ipos (h : LC (Rz 1024 4 D) (Rz 1024 3 D) hd n lp c E ix) (hT : Til (Rz 1024 3 D) e) (he : e ≤ 1024) (h1 : 2 ≤ n) : 4 ≤ ix ∧ ix + 9 ≤ 1024 := by
  have := (h.2.2.2 h1).1
  have := hT.1 ix (by omega)
  omega
theorem LC.tot (h : LC (Rz 1024 4 D) (Rz 1024 3 D) hd n lp c E ix) {i : Int} (h0 : 0 ≤ i) (h1 : i ≤ n) : 0 ≤ sm c i ∧ sm c i ≤ 4 * i :=
  sm_bd (by decide) i.toNat i (by omega) (fun k a b => by have := (h.2.2.1 k a (by omega)).2.2.1; omega)
theorem leafCount_c (h : LC (Rz 1024 4 D) (Rz 1024 3 D) hd n lp c E ix) (hT : Til (Rz 1024 3 D) e) (he : e ≤ 1024) (hp : 0 ≤ p ∧ p ≤ 1020) (hh : Rz 1024 4 D (p + 2) = hd) : pL_leafCount p D = n := by
  obtain ⟨h1, h2, h3, h4⟩ := id h
  have hpos := fun {i : Int} => h.pos hT he (i := i)
  have hipos := h.ipos hT he
  unfold pL_leafCount pI_unitAt pL_isIndex pI_itemCount
  simp only [ltR]
  rw [rd_R (by omega), hh, h2]
  by_cases q0 : n = 0
  · rw [if_pos q0, w32_k0, if_pos rfl, q0]
  · rw [if_neg q0]
    by_cases q1 : n = 1
    · have := hpos (i := 0) (by omega) (by omega)
      have h5 := (h3 0 (by omega) (by omega)).1
      rw [if_pos q1, w32_of (by omega), if_neg (by omega), rd_R (by omega), h5, if_pos (by decide)]
      exact q1.symm
    · have := hipos (by omega)
      obtain ⟨g1, g2, -⟩ := h4 (by omega)
      rw [if_neg q1, w32_of (by omega), if_neg (by omega), rd_R (by omega), g1, if_neg (by decide), rd_R (by omega), g2]
theorem leafNumbered_c (h : LC (Rz 1024 4 D) (Rz 1024 3 D) hd n lp c E ix) (hT : Til (Rz 1024 3 D) e) (he : e ≤ 1024) (hp : 0 ≤ p ∧ p ≤ 1020) (hh : Rz 1024 4 D (p + 2) = hd) {i : Int} (hi0 : 0 ≤ i) (hi1 : i < n) : pL_leafNumbered p i D = lp i := by
  obtain ⟨h1, h2, h3, h4⟩ := id h
  have hpos := fun {i : Int} => h.pos hT he (i := i)
  have hipos := h.ipos hT he
  unfold pL_leafNumbered pI_unitAt pL_isIndex pI_item
  simp only [ltR]
  rw [rd_R (i := p + 2) (by omega), hh, h2, if_neg (show ¬ n = 0 by omega)]
  by_cases q1 : n = 1
  · have := hpos (i := 0) (by omega) (by omega)
    have h5 := (h3 0 (by omega) (by omega)).1
    rw [if_pos q1, rd_R (by omega), h5, if_pos (by decide), show i = 0 by omega]
  · have := hipos (by omega)
    obtain ⟨g1, g2, g3⟩ := h4 (by omega)
    rw [if_neg q1, rd_R (by omega), g1, if_neg (by decide), rd_R (by omega), g3 i hi0 hi1]
theorem itemCount_c (h : LC (Rz 1024 4 D) (Rz 1024 3 D) hd n lp c E ix) (hT : Til (Rz 1024 3 D) e) (he : e ≤ 1024) {i : Int} (hi0 : 0 ≤ i) (hi1 : i < n) : pI_itemCount (lp i) D = c i := by
  have := h.pos hT he hi0 hi1
  unfold pI_itemCount
  rw [rd_R (by omega)]
  exact (h.2.2.1 i hi0 hi1).2.1
theorem item_c (h : LC (Rz 1024 4 D) (Rz 1024 3 D) hd n lp c E ix) (hT : Til (Rz 1024 3 D) e) (he : e ≤ 1024) {i j : Int} (hi0 : 0 ≤ i) (hi1 : i < n) (hj0 : 0 ≤ j) (hj1 : j < c i) : pI_item (lp i) j D = E (sm c i + j) := by
  have := h.pos hT he hi0 hi1
  have hc := (h.2.2.1 i hi0 hi1).2.2
  unfold pI_item
  rw [rd_R (by omega)]
  exact hc.2 j hj0 hj1
theorem entryCount_loop (h : LC (Rz 1024 4 D) (Rz 1024 3 D) hd n lp c E ix) (hT : Til (Rz 1024 3 D) e) (he : e ≤ 1024) (hp : 0 ≤ p ∧ p ≤ 1020) (hh : Rz 1024 4 D (p + 2) = hd) : ∀ (f : Nat) (i : Int), 0 ≤ i → i ≤ n → (n - i).toNat < f → pL_entryCount_11 p n f (sm c i) i D = okR (sm c n) D := by
  have hn := h.1
  intro f
  induction f with
  | zero => intro i h1 h2 h3; omega
  | succ f ih =>
    intro i h1 h2 h3
    rw [pL_entryCount_11, w32_of (z := i) (by omega), w32_of (z := n) (by omega)]
    by_cases g : i < n
    · rw [if_pos g]
      simp only [ltR]
      rw [leafNumbered_c h hT he hp hh h1 g, itemCount_c h hT he h1 g, ← sm_s h1]
      exact ih (i + 1) (by omega) (by omega) (by omega)
    · rw [if_neg g, show i = n by omega]
theorem entryCount_c (h : LC (Rz 1024 4 D) (Rz 1024 3 D) hd n lp c E ix) (hT : Til (Rz 1024 3 D) e) (he : e ≤ 1024) (hp : 0 ≤ p ∧ p ≤ 1020) (hh : Rz 1024 4 D (p + 2) = hd) : pL_entryCount p D = okR (sm c n) D := by
  have hn := h.1
  unfold pL_entryCount
  simp only [ltR]
  rw [leafCount_c h hT he hp hh]
  exact entryCount_loop h hT he hp hh fu 0 (by omega) (by omega) (fu_gt (by omega))
/-- the leaf to which an entry belongs -/
def LF (c E : Int → Int) (n x L : Int) : Prop := (0 ≤ L ∧ (L < n ∨ L = 0)) ∧ (L = 0 ∨ E (sm c L) ≤ x) ∧ ∀ j, L < j → j < n → x < E (sm c j)
theorem LF.uniq {n x L L' : Int} (h : LF c E n x L) (h' : LF c E n x L') : L = L' := by
  obtain ⟨⟨a1, a2⟩, a3, a4⟩ := h
  obtain ⟨⟨b1, b2⟩, b3, b4⟩ := h'
  by_cases q : L < L'
  · have := a4 L' q (by omega)
    omega
  · by_cases q2 : L' < L
    · have := b4 L q2 (by omega)
      omega
    · omega
theorem leafFor_loop (h : LC (Rz 1024 4 D) (Rz 1024 3 D) hd n lp c E ix) (hT : Til (Rz 1024 3 D) e) (he : e ≤ 1024) (hp : 0 ≤ p ∧ p ≤ 1020) (hh : Rz 1024 4 D (p + 2) = hd) (hE : ∀ j, 0 ≤ j → j < sm c n → 0 ≤ E j ∧ E j ≤ 100000000) {x : Int} (hx : 0 ≤ x ∧ x ≤ 100000000) : ∀ (f : Nat) (L i : Int), 1 ≤ i → (i ≤ n ∨ i = 1) → 0 ≤ L → L < i → (n - i).toNat < f → (L = 0 ∨ E (sm c L) ≤ x) → (∀ j, L < j → j < i → x < E (sm c j)) → (L < n ∨ L = 0) →
    ∃ L', pL_leafNumberFor_12 p x n f L i D = okR L' D ∧ LF c E n x L' := by
  have hn := h.1
  intro f
  induction f with
  | zero => intro L i h1 h2 h3 h4 h5; omega
  | succ f ih =>
    intro L i h1 h2 h3 h4 h5 h6 h7 h8
    rw [pL_leafNumberFor_12, w32_of (z := i) (by omega), w32_of (z := n) (by omega)]
    by_cases g : i < n
    · have hc := (h.2.2.1 i (by omega) g).2.2.1
      have hst := sm_step (f := c) (i := i) (j := n) (by omega) g (fun k a b => by have := (h.2.2.1 k (by omega) b).2.2.1; omega)
      have ht := h.tot (i := i) (by omega) (by omega)
      have hb := hE (sm c i) ht.1 (by omega)
      rw [if_pos g]
      simp only [jnR]
      rw [leafNumbered_c h hT he hp hh (by omega) g, item_c h hT he (by omega) g (Int.le_refl 0) (by omega), Int.add_zero, w32_of (z := x) (by omega), w32_of (z := E (sm c i)) (by omega)]
      by_cases q : x < E (sm c i)
      · rw [if_pos q]
        exact ih L (i + 1) (by omega) (by omega) h3 (by omega) (by omega) h6 (fun j a b => by
          by_cases q2 : j = i
          · rw [q2]; exact q
          · exact h7 j a (by omega)) h8
      · rw [if_neg q]
        exact ih i (i + 1) (by omega) (by omega) (by omega) (by omega) (by omega) (Or.inr (by omega)) (fun j a b => by omega) (Or.inl g)
    · rw [if_neg g]
      exact ⟨L, rfl, ⟨h3, h8⟩, h6, fun j a b => h7 j a (by omega)⟩
theorem leafFor_c (h : LC (Rz 1024 4 D) (Rz 1024 3 D) hd n lp c E ix) (hT : Til (Rz 1024 3 D) e) (he : e ≤ 1024) (hp : 0 ≤ p ∧ p ≤ 1020) (hh : Rz 1024 4 D (p + 2) = hd) (hE : ∀ j, 0 ≤ j → j < sm c n → 0 ≤ E j ∧ E j ≤ 100000000) {x : Int} (hx : 0 ≤ x ∧ x ≤ 100000000) : ∃ L', pL_leafNumberFor p x D = okR L' D ∧ LF c E n x L' := by
  have hn := h.1
  unfold pL_leafNumberFor
  simp only [ltR]
  rw [leafCount_c h hT he hp hh]
  exact leafFor_loop h hT he hp hh hE hx fu 0 1 (by omega) (Or.inr rfl) (by omega) (by omega) (fu_gt (by omega)) (Or.inl rfl) (fun j a b => by omega) (Or.inr rfl)
/-- how many entries of a leaf lie ahead -/
theorem ahead_loop (h : LC (Rz 1024 4 D) (Rz 1024 3 D) hd n lp c E ix) (hT : Til (Rz 1024 3 D) e) (he : e ≤ 1024) (hE : ∀ j, 0 ≤ j → j < sm c n → 0 ≤ E j ∧ E j ≤ 100000000) {x i a : Int} (hx : 0 ≤ x ∧ x ≤ 100000000) (hi0 : 0 ≤ i) (hi1 : i < n) (ha : 0 ≤ a ∧ a ≤ c i) (h1 : ∀ j, 0 ≤ j → j < a → E (sm c i + j) < x) (h2 : ∀ j, a ≤ j → j < c i → x ≤ E (sm c i + j)) :
    ∀ (f : Nat) (m j : Int), 0 ≤ j → j ≤ c i → m = (if j ≤ a then j else a) → (c i - j).toNat < f → pL_entriesAhead_15 (lp i) x (c i) f m j D = okR a D := by
  have hc := (h.2.2.1 i hi0 hi1).2.2.1
  have hst := sm_step (f := c) (i := i) (j := n) hi0 hi1 (fun k a b => by have := (h.2.2.1 k (by omega) b).2.2.1; omega)
  have ht := h.tot (i := i) hi0 (by omega)
  intro f
  induction f with
  | zero => intro m j b1 b2 b3 b4; omega
  | succ f ih =>
    intro m j b1 b2 b3 b4
    rw [pL_entriesAhead_15, w32_of (z := j) (by omega), w32_of (z := c i) (by omega)]
    by_cases g : j < c i
    · have hb := hE (sm c i + j) (by omega) (by omega)
      rw [if_pos g]
      simp only [jnR]
      rw [item_c h hT he hi0 hi1 b1 g, w32_of (z := x) (by omega), w32_of (z := E (sm c i + j)) (by omega)]
      by_cases q : j < a
      · rw [if_pos (h1 j b1 q)]
        exact ih (m + 1) (j + 1) (by omega) (by omega) (by rw [if_pos (by omega)] at b3 ⊢; omega) (by omega)
      · have := h2 j (by omega) g
        rw [if_neg (by omega)]
        refine ih m (j + 1) (by omega) (by omega) ?_ (by omega)
        rw [if_neg (by omega)]
        by_cases q2 : j ≤ a
        · rw [if_pos q2] at b3; omega
        · rw [if_neg q2] at b3; exact b3
    · rw [if_neg g]
      have : m = a := by
        by_cases q2 : j ≤ a
        · rw [if_pos q2] at b3; omega
        · rw [if_neg q2] at b3; exact b3
      rw [this]
theorem ahead_c (h : LC (Rz 1024 4 D) (Rz 1024 3 D) hd n lp c E ix) (hT : Til (Rz 1024 3 D) e) (he : e ≤ 1024) (hE : ∀ j, 0 ≤ j → j < sm c n → 0 ≤ E j ∧ E j ≤ 100000000) {x i a : Int} (hx : 0 ≤ x ∧ x ≤ 100000000) (hi0 : 0 ≤ i) (hi1 : i < n) (ha : 0 ≤ a ∧ a ≤ c i) (h1 : ∀ j, 0 ≤ j → j < a → E (sm c i + j) < x) (h2 : ∀ j, a ≤ j → j < c i → x ≤ E (sm c i + j)) : pL_entriesAhead (lp i) x D = okR a D := by
  have hc := (h.2.2.1 i hi0 hi1).2.2.1
  unfold pL_entriesAhead
  simp only [ltR]
  rw [itemCount_c h hT he hi0 hi1]
  exact ahead_loop h hT he hE hx hi0 hi1 ha h1 h2 fu 0 0 (by omega) (by omega) (by rw [if_pos ha.1]) (fu_gt (by omega))
end LISTS
