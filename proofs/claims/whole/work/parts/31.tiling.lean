/-! the cells tile the file: s u is the size of the cell that begins at u, below 0 if it is free, 0 if none begins there; e: the file's end -/
def Til (s : Int → Int) (e : Int) : Prop :=
  (∀ u, s u ≠ 0 → 4 ≤ u ∧ u + s u ≤ e ∧ u - s u ≤ e) ∧
  (∀ u v, s u ≠ 0 → u < v → (v < u + s u ∨ v < u - s u) → s v = 0) ∧
  s 4 ≠ 0 ∧
  (∀ u, 0 < s u → u + s u < e → s (u + s u) ≠ 0) ∧
  (∀ u, s u < 0 → u - s u < e → 0 < s (u - s u))
theorem Til.cong {s t : Int → Int} {e : Int} (h : Til s e) (hst : ∀ u, t u = s u) : Til t e := by
  have : t = s := funext hst
  rw [this]
  exact h
/-- two used cells lie apart -/
theorem Til.apart {s : Int → Int} {e : Int} (h : Til s e) {u v : Int} (hu : 0 < s u) (hv : s v ≠ 0) (hne : u ≠ v) : u + s u ≤ v ∨ v < u := by
  by_cases g : u < v
  · left
    refine Int.not_lt.mp fun g2 => hv (h.2.1 u v (by omega) g (Or.inl g2))
  · right
    omega
/-- the greatest start below a place -/
theorem Til.greatest {s : Int → Int} (h4 : s 4 ≠ 0) : ∀ (n : Nat) (p : Int), p = 5 + n → ∃ u, 4 ≤ u ∧ u < p ∧ s u ≠ 0 ∧ ∀ v, u < v → v < p → s v = 0 := by
  intro n
  induction n with
  | zero =>
    intro p hp
    exact ⟨4, by omega, by omega, h4, fun v h1 h2 => by omega⟩
  | succ n ih =>
    intro p hp
    by_cases g : s (p - 1) = 0
    · obtain ⟨u, h1, h2, h3, h5⟩ := ih (p - 1) (by omega)
      refine ⟨u, h1, by omega, h3, fun v h6 h7 => ?_⟩
      by_cases g2 : v = p - 1
      · rw [g2]; exact g
      · exact h5 v h6 (by omega)
    · exact ⟨p - 1, by omega, by omega, g, fun v h1 h2 => by omega⟩
/-- the cell that ends at a start, or at the end -/
theorem Til.ahead {s : Int → Int} {e : Int} (h : Til s e) {p : Int} (hp : 4 < p) (hpe : p ≤ e) (hs : p = e ∨ s p ≠ 0) : ∃ u, 4 ≤ u ∧ u < p ∧ s u ≠ 0 ∧ (∀ v, u < v → v < p → s v = 0) ∧ (u + s u = p ∨ u - s u = p) := by
  obtain ⟨u, h1, h2, h3, h5⟩ := Til.greatest h.2.2.1 (p - 5).toNat p (by omega)
  refine ⟨u, h1, h2, h3, h5, ?_⟩
  obtain ⟨-, b1, b2⟩ := h.1 u h3
  have hin : ¬ (p < u + s u ∨ p < u - s u) := fun g => by
    rcases hs with hs | hs
    · omega
    · exact hs (h.2.1 u p h3 h2 g)
  by_cases g : 0 < s u
  · left
    by_cases g2 : u + s u < p
    · have := h.2.2.2.1 u g (by omega)
      exact absurd (h5 _ (by omega) g2) this
    · omega
  · right
    by_cases g2 : u - s u < p
    · have := h.2.2.2.2 u (by omega) (by omega)
      have g3 := h5 _ (by omega) g2
      omega
    · omega
/-- the first free cell that is large enough; -1 if there is none -/
def FF (s : Int → Int) (e n r : Int) : Prop := (r = -1 ∧ ∀ k, 0 ≤ k → k < e → -n < s k) ∨ (0 ≤ r ∧ r < e ∧ s r ≤ -n ∧ ∀ k, 0 ≤ k → k < r → -n < s k)
theorem FF.uniq {s : Int → Int} {e n r r' : Int} (h : FF s e n r) (h' : FF s e n r') : r = r' := by
  rcases h with ⟨h1, h2⟩ | ⟨h1, h2, h3, h4⟩ <;> rcases h' with ⟨g1, g2⟩ | ⟨g1, g2, g3, g4⟩
  · omega
  · have := h2 r' g1 g2
    omega
  · have := g2 r h1 h2
    omega
  · by_cases q : r < r'
    · have := g4 r h1 q
      omega
    · by_cases q2 : r' < r
      · have := h4 r' g1 q2
        omega
      · omega
def zof (r : Int) : Int := if r = -1 then 0 else r
theorem zmm {x : Int} (h : -100000 ≤ x ∧ x ≤ 100000) : zmax 1 (zabs x) = if 1 ≤ x then x else if x ≤ -1 then -x else 1 := by
  unfold zmax zabs
  rw [w32_of (z := x) (by omega), w32_of (z := 1) (by omega)]
  by_cases g : 0 ≤ x
  · rw [if_pos g, w32_of (by omega)]
    split <;> split <;> omega
  · rw [if_neg g, w32_of (by omega)]
    split <;> split <;> first | omega | (split <;> omega)
theorem ff_loop {D : DD} {e n : Int} (he : 4 < e ∧ e ≤ 1024) (hn : 1 ≤ n ∧ n ≤ 1000) (hT : Til (Rz 1024 3 D) e) : ∀ (f : Nat) (u : Int), 4 ≤ u → u ≤ e → (u = e ∨ Rz 1024 3 D u ≠ 0) → (e - u).toNat < f → (∀ k, 0 ≤ k → k < u → -n < Rz 1024 3 D k) →
    ∃ r, pC_firstFreeFor_10 n e f u D = okR (zof r) D ∧ FF (Rz 1024 3 D) e n r := by
  intro f
  induction f with
  | zero => intro u h4 hue hst hf; omega
  | succ f ih =>
    intro u h4 hue hst hf hno
    rw [pC_firstFreeFor_10, w32_of (z := u) (by omega), w32_of (z := e) (by omega), rd_R (by omega)]
    by_cases hlt : u < e
    · rw [if_pos hlt]
      have hs := hst.resolve_left (by omega)
      obtain ⟨-, t2, t3⟩ := hT.1 u hs
      have tn := hT.2.2.2.1 u
      have tf := hT.2.2.2.2 u
      have ti := hT.2.1 u
      simp only [ltR]
      generalize hx : Rz 1024 3 D u = x at *
      rw [w32_of (z := -x) (by omega), w32_of (z := n) (by omega)]
      by_cases hc : -x < n
      · rw [if_pos hc, zmm (by omega)]
        have key : ∀ w, 1 ≤ w → (w = x ∨ w = -x) → ∃ r, pC_firstFreeFor_10 n e f (u + w) D = okR (zof r) D ∧ FF (Rz 1024 3 D) e n r := by
          intro w hw1 hw
          refine ih (u + w) (by omega) (by omega) ?_ (by omega) (fun k h1 h2 => ?_)
          · by_cases g : u + w = e
            · exact Or.inl g
            · right
              rcases hw with hw | hw
              · rw [hw]
                exact tn (by omega) (by omega)
              · have := tf (by omega) (by omega)
                rw [show u + w = u - x by omega]
                omega
          · by_cases g : k < u
            · exact hno k h1 g
            · by_cases g2 : k = u
              · rw [g2, hx]; omega
              · rw [ti k hs (by omega) (by omega)]
                omega
        by_cases g : 1 ≤ x
        · rw [if_pos g]
          exact key x g (Or.inl rfl)
        · rw [if_neg g, if_pos (by omega)]
          exact key (-x) (by omega) (Or.inr rfl)
      · rw [if_neg hc]
        refine ⟨u, by unfold zof; rw [if_neg (by omega)], Or.inr ⟨by omega, hlt, by rw [hx]; omega, hno⟩⟩
    · rw [if_neg hlt]
      refine ⟨-1, rfl, Or.inl ⟨rfl, fun k h1 h2 => hno k h1 (by omega)⟩⟩
theorem ff_class {D : DD} {n : Int} (hs : 1 ≤ D 2 4 ∧ D 2 4 ≤ 64) (hn : 1 ≤ n ∧ n ≤ 1000) (hT : Til (Rz 1024 3 D) (16 * D 2 4)) : ∃ r, pC_firstFreeFor n D = okR (zof r) D ∧ FF (Rz 1024 3 D) (16 * D 2 4) n r := by
  unfold pC_firstFreeFor pI_end
  simp only [ltR]
  rw [Int.mul_comm (D 2 4) 16]
  refine ff_loop (by omega) hn hT fu 4 (by omega) (by omega) (Or.inr hT.2.2.1) (fu_gt (by omega)) (fun k h1 h2 => ?_)
  by_cases g : Rz 1024 3 D k = 0
  · omega
  · have := (hT.1 k g).1
    omega
theorem mff_loop {D : DD} {s : Int → Int} {e n : Int} (he : 4 < e ∧ e ≤ 1024) (hn : 1 ≤ n ∧ n ≤ 1000) (hu : pM_units D = e) (hs : ∀ k, 0 ≤ k → k < 1024 → Rz 3072 33 D k = s k) (hb : ∀ k, 0 ≤ k → k < e → -100000 ≤ s k ∧ s k ≤ 100000) : ∀ (f : Nat) (u : Int), 0 ≤ u → u ≤ e → (e - u).toNat < f → (∀ k, 0 ≤ k → k < u → -n < s k) →
    ∃ r, pM_freeFor_2 n f u D = okR r D ∧ FF s e n r := by
  intro f
  induction f with
  | zero => intro u h4 hue hf; omega
  | succ f ih =>
    intro u h4 hue hf hno
    rw [pM_freeFor_2, hu, w32_of (z := u) (by omega), w32_of (z := e) (by omega)]
    by_cases hlt : u < e
    · rw [if_pos hlt, rdA_R ⟨h4, by omega, by decide⟩, hs u h4 (by omega), w32_of (z := -n) (by omega), w32_of (z := s u) (by have := hb u h4 hlt; omega)]
      by_cases hc : -n < s u
      · rw [if_pos hc]
        refine ih (u + 1) (by omega) (by omega) (by omega) (fun k h1 h2 => ?_)
        by_cases g : k = u
        · rw [g]; exact hc
        · exact hno k h1 (by omega)
      · rw [if_neg hc]
        exact ⟨u, rfl, Or.inr ⟨h4, hlt, by omega, hno⟩⟩
    · rw [if_neg hlt]
      exact ⟨-1, rfl, Or.inl ⟨rfl, fun k h1 h2 => hno k h1 (by omega)⟩⟩
theorem Til.bd {s : Int → Int} {e : Int} (h : Til s e) (he : e ≤ 1024) (k : Int) : -100000 ≤ s k ∧ s k ≤ 100000 := by
  by_cases g : s k = 0
  · omega
  · have := h.1 k g
    omega
/-- the class and the reference have the same cells -/
def CR (Dc Dm : DD) : Prop := Til (Rz 1024 3 Dc) (16 * Dc 2 4) ∧ (1 ≤ Dc 2 4 ∧ Dc 2 4 ≤ 64) ∧ Dm 34 0 = Dc 2 4 ∧ ∀ k, 0 ≤ k → k < 1024 → Rz 3072 33 Dm k = Rz 1024 3 Dc k
theorem ff_both {Dc Dm : DD} {n : Int} (h : CR Dc Dm) (hn : 1 ≤ n ∧ n ≤ 1000) : ∃ r, pC_firstFreeFor n Dc = okR (zof r) Dc ∧ pM_freeFor n Dm = okR r Dm ∧ FF (Rz 1024 3 Dc) (16 * Dc 2 4) n r := by
  obtain ⟨hT, hsc, hm, hs⟩ := h
  obtain ⟨r, h1, h2⟩ := ff_class hsc hn hT
  obtain ⟨r', g1, g2⟩ := mff_loop (D := Dm) (s := Rz 1024 3 Dc) (e := 16 * Dc 2 4) (by omega) hn (by unfold pM_units; rw [hm]) hs (fun k _ _ => hT.bd (by omega) k) fu 0 (by omega) (by omega) (fu_gt (by omega)) (fun k a b => by omega)
  have e := h2.uniq g2
  subst e
  exact ⟨r, h1, g1, g2⟩
/-- the cell ahead -/
theorem ca_loop {D : DD} : ∀ (f : Nat) (u : Int), u ≤ 1024 → -1 ≤ u → u.toNat < f → ∃ r, pC_cellAhead_4 f u D = okR r D ∧ ((r = 0 ∧ ∀ v, 4 ≤ v → v ≤ u → w32 (Rz 1024 3 D v) = 0) ∨ (4 ≤ r ∧ r ≤ u ∧ w32 (Rz 1024 3 D r) ≠ 0 ∧ ∀ v, r < v → v ≤ u → w32 (Rz 1024 3 D v) = 0)) := by
  intro f
  induction f with
  | zero => intro u h1 h2 hf; omega
  | succ f ih =>
    intro u h1 h2 hf
    rw [pC_cellAhead_4, w32_of (z := u) (by omega), rd_R (by omega)]
    by_cases g : u < 4
    · rw [if_pos g]
      exact ⟨0, rfl, Or.inl ⟨rfl, fun v a b => by omega⟩⟩
    · rw [if_neg g]
      by_cases g2 : w32 (Rz 1024 3 D u) = 0
      · rw [if_pos g2]
        obtain ⟨r, e1, e2⟩ := ih (u + -1) (by omega) (by omega) (by omega)
        refine ⟨r, e1, ?_⟩
        rcases e2 with ⟨e2, e3⟩ | ⟨e2, e3, e4, e5⟩
        · refine Or.inl ⟨e2, fun v a b => ?_⟩
          by_cases q : v = u
          · rw [q]; exact g2
          · exact e3 v a (by omega)
        · refine Or.inr ⟨e2, by omega, e4, fun v a b => ?_⟩
          by_cases q : v = u
          · rw [q]; exact g2
          · exact e5 v a (by omega)
      · rw [if_neg g2]
        exact ⟨u, rfl, Or.inr ⟨by omega, by omega, g2, fun v a b => by omega⟩⟩
/-- the free cell that ends at p; -1 if there is none -/
def AH (s : Int → Int) (p r : Int) : Prop := (r = -1 ∧ ∀ k, ¬ (s k < 0 ∧ k - s k = p)) ∨ (4 ≤ r ∧ r < p ∧ s r < 0 ∧ r - s r = p)
theorem ah_class {D : DD} {s : Int → Int} {e p : Int} (he : e ≤ 1024) (hT : Til s e) (hD : ∀ v, v < p → Rz 1024 3 D v = s v) (hp : 4 ≤ p) (hpe : p ≤ e) (hs : p = e ∨ s p ≠ 0) :
    ∃ v r, pC_cellAhead p D = okR v D ∧ AH s p r ∧ (0 ≤ v ∧ v < p) ∧ ((s v < 0 ∧ v = r) ∨ (0 ≤ s v ∧ r = -1)) := by
  have hw : ∀ v, v < p → w32 (Rz 1024 3 D v) = s v := fun v hv => by rw [hD v hv]; exact w32_of (by have := hT.bd he v; omega)
  obtain ⟨v, h1, h2'⟩ := ca_loop (D := D) fu (p - 1) (by omega) (by omega) (fu_gt (by omega))
  have h2 : (v = 0 ∧ ∀ w, 4 ≤ w → w ≤ p - 1 → s w = 0) ∨ (4 ≤ v ∧ v ≤ p - 1 ∧ s v ≠ 0 ∧ ∀ w, v < w → w ≤ p - 1 → s w = 0) := by
    rcases h2' with ⟨q1, q2⟩ | ⟨q1, q2, q3, q4⟩
    · exact Or.inl ⟨q1, fun w a b => by rw [← hw w (by omega)]; exact q2 w a b⟩
    · exact Or.inr ⟨q1, q2, by rw [← hw v (by omega)]; exact q3, fun w a b => by rw [← hw w (by omega)]; exact q4 w a b⟩
  have h0 : s 0 = 0 := Classical.byContradiction fun g => by have := (hT.1 0 g).1; omega
  have hno : ∀ k, (∀ u, s u < 0 → u - s u = p → u = k) → ¬ s k < 0 → ∀ u, ¬ (s u < 0 ∧ u - s u = p) := fun k hk hn u hu => by
    have := hk u hu.1 hu.2
    rw [this] at hu
    exact hn hu.1
  by_cases g4 : p = 4
  · have hv : v = 0 := by
      rcases h2 with ⟨h2, -⟩ | ⟨h2, h3, -⟩
      · exact h2
      · omega
    refine ⟨v, -1, h1, Or.inl ⟨rfl, fun k hk => ?_⟩, by omega, Or.inr ⟨by rw [hv, h0]; omega, rfl⟩⟩
    have := (hT.1 k (by omega)).1
    omega
  · obtain ⟨u, a1, a2, a3, a4, a5⟩ := hT.ahead (by omega) hpe hs
    have hv : v = u := by
      rcases h2 with ⟨-, h2⟩ | ⟨h2, h3, h4, h5⟩
      · exact absurd (h2 u a1 (by omega)) a3
      · by_cases q : v < u
        · exact absurd (h5 u q (by omega)) a3
        · by_cases q2 : u < v
          · exact absurd (a4 v q2 (by omega)) h4
          · omega
    subst hv
    by_cases g : s v < 0
    · exact ⟨v, v, h1, Or.inr ⟨a1, a2, g, by omega⟩, by omega, Or.inl ⟨g, rfl⟩⟩
    · refine ⟨v, -1, h1, Or.inl ⟨rfl, hno v (fun u b1 b2 => ?_) g⟩, by omega, Or.inr ⟨by omega, rfl⟩⟩
      by_cases q : u = v
      · exact q
      · exfalso
        by_cases q2 : u < v
        · exact a3 (hT.2.1 u v (by omega) q2 (by omega))
        · have := a4 u (by omega) (by omega)
          omega
theorem mah_loop {D : DD} {s : Int → Int} {p : Int} (hp : p ≤ 1024) (hs : ∀ k, 0 ≤ k → k < p → Rz 3072 33 D k = s k) (hb : ∀ k, -100000 ≤ s k ∧ s k ≤ 100000) : ∀ (f : Nat) (a u : Int), 0 ≤ u → u ≤ p → (p - u).toNat < f →
    ((a = -1 ∧ ∀ k, 0 ≤ k → k < u → ¬ (s k < 0 ∧ k - s k = p)) ∨ (0 ≤ a ∧ a < u ∧ s a < 0 ∧ a - s a = p)) →
    ∃ r, pM_freeAhead_4 p f a u D = okR r D ∧ ((r = -1 ∧ ∀ k, 0 ≤ k → k < p → ¬ (s k < 0 ∧ k - s k = p)) ∨ (0 ≤ r ∧ r < p ∧ s r < 0 ∧ r - s r = p)) := by
  intro f
  induction f with
  | zero => intro a u h1 h2 hf; omega
  | succ f ih =>
    intro a u h1 h2 hf ha
    rw [pM_freeAhead_4, w32_of (z := u) (by omega), w32_of (z := p) (by omega)]
    by_cases g : u < p
    · rw [if_pos g, rdA_R ⟨h1, by omega, by decide⟩, hs u h1 g]
      have hbu := hb u
      have e1 : (p - (u + 1)).toNat < f := by clear ih hs hb ha hbu; omega
      simp only [jnR]
      rw [rdA_R ⟨h1, by omega, by decide⟩, hs u h1 g, w32_of (z := s u) (by omega), w32_of (z := u - s u) (by omega)]
      have hno : ¬ (s u < 0 ∧ u - s u = p) → ∃ r, pM_freeAhead_4 p f a (u + 1) D = okR r D ∧ ((r = -1 ∧ ∀ k, 0 ≤ k → k < p → ¬ (s k < 0 ∧ k - s k = p)) ∨ (0 ≤ r ∧ r < p ∧ s r < 0 ∧ r - s r = p)) := fun q => by
        refine ih a (u + 1) (by omega) (by omega) (by omega) ?_
        rcases ha with ⟨e1, e2⟩ | e
        · refine Or.inl ⟨e1, fun k b1 b2 => ?_⟩
          by_cases q2 : k = u
          · rw [q2]; exact q
          · exact e2 k b1 (by omega)
        · exact Or.inr ⟨e.1, by omega, e.2.2⟩
      by_cases g1 : s u < 0
      · rw [if_pos g1]
        by_cases g2 : u - s u = p
        · rw [if_pos g2]
          have e2 : u < u + 1 := by omega
          exact ih u (u + 1) (by omega) (by omega) e1 (Or.inr ⟨h1, e2, g1, g2⟩)
        · rw [if_neg g2]
          exact hno (fun q => g2 q.2)
      · rw [if_neg g1]
        exact hno (fun q => g1 q.1)
    · rw [if_neg g]
      refine ⟨a, rfl, ?_⟩
      rcases ha with ⟨e1, e2⟩ | e
      · exact Or.inl ⟨e1, fun k b1 b2 => e2 k b1 (by omega)⟩
      · exact Or.inr ⟨e.1, by omega, e.2.2⟩
theorem AH.uniq {s : Int → Int} {e p r r' : Int} (hT : Til s e) (h : AH s p r) (h' : AH s p r') : r = r' := by
  rcases h with ⟨h1, h2⟩ | ⟨h1, h2, h3, h4⟩ <;> rcases h' with ⟨g1, g2⟩ | ⟨g1, g2, g3, g4⟩
  · omega
  · exact absurd ⟨g3, g4⟩ (h2 r')
  · exact absurd ⟨h3, h4⟩ (g2 r)
  · by_cases q : r < r'
    · have := hT.2.1 r r' (by omega) q (by omega)
      omega
    · by_cases q2 : r' < r
      · have := hT.2.1 r' r (by omega) q2 (by omega)
        omega
      · omega
theorem ah_both {Dc Dm : DD} {s : Int → Int} {e p : Int} (he : e ≤ 1024) (hT : Til s e) (hc : ∀ v, v < p → Rz 1024 3 Dc v = s v) (hm : ∀ v, 0 ≤ v → v < p → Rz 3072 33 Dm v = s v) (hp : 4 ≤ p) (hpe : p ≤ e) (hs : p = e ∨ s p ≠ 0) :
    ∃ v r, pC_cellAhead p Dc = okR v Dc ∧ pM_freeAhead p Dm = okR r Dm ∧ AH s p r ∧ (0 ≤ v ∧ v < p) ∧ ((s v < 0 ∧ v = r) ∨ (0 ≤ s v ∧ r = -1)) := by
  obtain ⟨v, r, h1, h2, h3, h4⟩ := ah_class he hT hc hp hpe hs
  obtain ⟨r', g1, g2⟩ := mah_loop (D := Dm) (s := s) (p := p) (by omega) hm (fun k => hT.bd he k) fu (-1) 0 (by omega) (by omega) (fu_gt (by omega)) (Or.inl ⟨rfl, fun k a b => by omega⟩)
  have g3 : AH s p r' := by
    rcases g2 with ⟨e1, e2⟩ | ⟨e1, e2, e3, e4⟩
    · refine Or.inl ⟨e1, fun k hk => ?_⟩
      have := (hT.1 k (by omega))
      exact e2 k (by omega) (by omega) hk
    · exact Or.inr ⟨(hT.1 r' (by omega)).1, e2, e3, e4⟩
  have := h2.uniq hT g3
  subst this
  exact ⟨v, r, h1, g1, h2, h3, h4⟩
